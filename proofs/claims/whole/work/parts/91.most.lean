/-! MOST: taken back, summed, the class's side -/
theorem nu_inj {a b : Nat} (ha : a < 2 ^ 31) (hb : b < 2 ^ 31) (h : nI a = nI b) : a = b := by
  have h1 := congrArg Int32.toInt h
  rw [nI_toInt ha, nI_toInt hb] at h1
  omega
theorem jw_min {x y : Int64} : (if y < x then y else x).toInt ≤ x.toInt ∧ (if y < x then y else x).toInt ≤ y.toInt ∧ (0 < x.toInt → 0 < y.toInt → 0 < (if y < x then y else x).toInt) := by
  by_cases c : y < x
  · rw [if_pos c]
    rw [Int64.lt_iff_toInt_lt] at c
    exact ⟨by omega, Int.le_refl _, fun _ h => h⟩
  · rw [if_neg c]
    rw [Int64.lt_iff_toInt_lt] at c
    exact ⟨Int.le_refl _, by omega, fun h _ => h⟩
theorem sm_bd {f : Nat → Int} {c : Int} (n : Nat) (h : ∀ i, i < n → 0 ≤ f i ∧ f i ≤ c) : 0 ≤ sm f n ∧ sm f n ≤ c * (n : Int) := by
  induction n with
  | zero => exact ⟨Int.le_refl _, by show (0 : Int) ≤ _; omega⟩
  | succ n ih =>
    obtain ⟨i1, i2⟩ := ih (fun i hi => h i (by omega))
    obtain ⟨j1, j2⟩ := h n (by omega)
    have e : c * ((n + 1 : Nat) : Int) = c * (n : Int) + c := by rw [Int.natCast_add, Int.mul_add]; show _ + c * 1 = _; rw [Int.mul_one]
    rw [e]
    show 0 ≤ sm f n + f n ∧ sm f n + f n ≤ _
    exact ⟨by omega, by omega⟩
section CMT
variable {g : ab_E} {d h : Nat} {v : gd_D} {Q : ab_O → gd_D → Prop} {H : hs_T} {b : Bool} {x p : Nat → Int} {M : Int} {D : Nat → Int} {P : Nat → Option Nat} {t : Nat → Nat}
theorem k_change {z : Nat} {u : Int32} {U : Int} (hu : u.toInt = U) (hU : 0 ≤ U ∧ U ≤ 300000) (hR : cr_R v h H) (hW : hs_W H) (hm : ∀ w a, P w = some a → a < 2 * Hh H 1 ∧ bH (mo_N (mo_L H b) x) a = w) (hw : ∀ w, w < Hh H 0 → v.1 20 0 w = mc_c (P w)) (hx : ∀ i, i < Hh H 1 → 0 ≤ x i ∧ x i ≤ 1000) (hmx : mc_x v (mo_L H b) (Hh H 1) x)
    {e : Nat} {l : List Nat} (he : e < Hh H 0) (hl : l.length ≤ 7) (hn : (l.map (fun a => a / 2)).Nodup) (hP : mo_P (mo_L H b) x P z e l) (hQ : ∀ v', fr (fy [(16, 0)]) v v' → mc_x v' (mo_L H b) (Hh H 1) (mo_p x U l) → Q (Sum.inl none) v') : gd_C g mX3_change d 0 0 [zR 3 0, zR 2 h, zI (nI e), zI u] v Q := by
  have h8 := hW.1
  have h24 := hW.2.1
  have hK := mo_L.ok b hW
  have loop : ∀ (l : List Nat) (w a5 : Nat) (y : Nat → Int) (c : gd_D), fr (fy [(16, 0)]) v c → mc_x c (mo_L H b) (Hh H 1) y → a5 + l.length ≤ 7 → w < Hh H 0 → (l.map (fun a => a / 2)).Nodup → (∀ a ∈ l, y (a / 2) = x (a / 2)) → mo_P (mo_L H b) x P z w l → (∀ v', fr (fy [(16, 0)]) v v' → mc_x v' (mo_L H b) (Hh H 1) (mo_p y U l) → Q (Sum.inl none) v') → gd_G g mX3_change d 0 0 6 [(0, zR 3 0), (1, zR 2 h), (3, zI u), (4, zI (nI w)), (5, zI (nI a5))] [] c Q := by
    intro l
    induction l with
    | nil =>
      intro w a5 y c hf hy ha hw' hn hyx hp hq
      simp only [List.length_nil] at ha
      refine w_X3_change_6 (Nat.zero_le _) (pk_le 8 a5 (fun q => absurd q (by omega)) (fun _ => ⟨nu_in (by omega) (by omega), ?_⟩) rfl rfl (by omega) (by omega))
      rw [nI_clamp (n := w) (by omega), hf.I (k := 20) (fun _ => fy_n rfl), hw w hw', hp.2]
      exact ⟨fun _ => hq c hf hy, fun q => absurd rfl q⟩
    | cons a l ih =>
      intro w a5 y c hf hy ha hw' hn hyx hp hq
      simp only [List.length_cons] at ha
      obtain ⟨n1, n2⟩ := List.nodup_cons.mp hn
      obtain ⟨a1, a2⟩ := hm w a hp.1
      have hi : a / 2 < Hh H 1 := by omega
      obtain ⟨k1, k2, k3, k4, k5, k6, k7⟩ := hK.2.2.1 (a / 2) hi
      have e0 : c.1 9 (24 * h + a / 2) 0 = nI (lS (mo_L H b) (a / 2)) := by rw [hf.I (fun _ => fy_n rfl)]; exact hR.2.2.2.1 _ hi 0 (by decide)
      have e1 : c.1 9 (24 * h + a / 2) 1 = nI (lB (mo_L H b) (a / 2)) := by rw [hf.I (fun _ => fy_n rfl)]; exact hR.2.2.2.1 _ hi 1 (by decide)
      have e16 := (hy _ hi).1
      have ey := hyx a List.mem_cons_self
      have ex := hx _ hi
      have key : ∀ s3 : Int32, s3.toInt = mo_g a * U → wp_X3_change_67 g d h u (nI w) (nI a5) (24 * h + a / 2) (nI (a / 2)) (c.1 16 0 (a / 2)) s3 c Q := by
        intro s3 hs3
        unfold wp_X3_change_67
        rw [nI_clamp (n := a / 2) (by omega), nu_1]
        refine ⟨nu_in (by omega) (by omega), ?_⟩
        rintro _ rfl
        rw [sI_ne (by omega), sI_ne (by omega), e0, e1]
        have gb : -300000 ≤ mo_g a * U ∧ mo_g a * U ≤ 300000 := by unfold mo_g; split <;> omega
        have mem : mc_x (gd_sI c 16 0 (a / 2) (c.1 16 0 (a / 2) + s3)) (mo_L H b) (Hh H 1) (up y (a / 2) (y (a / 2) + mo_g a * U)) := by
          intro j hj
          by_cases cj : j = a / 2
          · subst cj
            rw [sI_at, up_at, sI_ne (by omega)]
            exact ⟨iw_add e16 hs3 (by omega) (by omega), (hy _ hi).2⟩
          · rw [sI_ne (by omega), up_ne _ _ cj, sI_ne (by omega)]
            exact hy j hj
        have step : bT (mo_N (mo_L H b) x) a < Hh H 0 → gd_G g mX3_change d 0 0 6 [(0, zR 3 0), (1, zR 2 h), (3, zI u), (4, zI (nI (bT (mo_N (mo_L H b) x) a))), (5, zI (nI (a5 + 1)))] [] (gd_sI c 16 0 (a / 2) (c.1 16 0 (a / 2) + s3)) Q := fun hbt => by
          refine ih (bT (mo_N (mo_L H b) x) a) (a5 + 1) _ _ (hf.tr (fr.sI (fy_y 0 rfl))) mem (by omega) hbt n2 (fun a' ha' => ?_) hp.2 (fun v' f' m' => hq v' f' m')
          rw [up_ne _ _ (fun q => n1 (List.mem_map.mpr ⟨a', ha', q⟩))]
          exact hyx a' (List.mem_cons_of_mem _ ha')
        rcases mo_2 a with ⟨i, ea⟩ | ⟨i, ea⟩
        · have ei : a / 2 = i := by omega
          rw [ea, (mo_e i).2.1] at a2
          rw [ea, (mo_e i).1, ← ea, ← ei] at step
          rw [← ei] at a2
          refine ⟨fun q => absurd (by rw [a2]) q, fun _ => step k1⟩
        · have ei : a / 2 = i := by omega
          rw [ea, (mo_o i).2.1] at a2
          rw [ea, (mo_o i).1, ← ea, ← ei] at step
          rw [← ei] at a2
          refine ⟨fun _ => step k2, fun q => absurd (nu_inj (by omega) (by omega) q) (fun q => k3 (a2.trans q.symm))⟩
      refine w_X3_change_6 (Nat.zero_le _) (pk_le 8 a5 (fun q => absurd q (by omega)) (fun _ => ⟨nu_in (by omega) (by omega), ?_⟩) rfl rfl (by omega) (by omega))
      rw [nI_clamp (n := w) (by omega), hf.I (k := 20) (fun _ => fy_n rfl), hw w hw', hp.1]
      refine ⟨fun q => absurd q (nu_m1 (by omega)), fun _ => ?_⟩
      show vp_in (nI w) 8 ∧ vp_in (nI (a / 2)) 24 ∧ ∀ i1 : Nat, i1 = 24 * h + (nI (a / 2)).toNatClampNeg → vp_in (nI w) 8 ∧ vp_in (nI (a / 2)) 24 ∧ ∀ x2 : Int32, x2 = c.1 16 0 (nI (a / 2)).toNatClampNeg → ((¬ c.1 9 i1 1 = nI w) → wp_X3_change_67 g d h u (nI w) (nI a5) i1 (nI (a / 2)) x2 u c Q) ∧ ((c.1 9 i1 1 = nI w) → wp_X3_change_67 g d h u (nI w) (nI a5) i1 (nI (a / 2)) x2 (-u) c Q)
      rw [nI_clamp (n := a / 2) (by omega)]
      refine ⟨nu_in (by omega) (by omega), nu_in (by omega) (by omega), ?_⟩
      rintro _ rfl
      refine ⟨nu_in (by omega) (by omega), nu_in (by omega) (by omega), ?_⟩
      rintro _ rfl
      rw [e1]
      rcases mo_2 a with ⟨i, ea⟩ | ⟨i, ea⟩
      · have ei : a / 2 = i := by omega
        rw [ea, (mo_e i).2.1, ← ei] at a2
        refine ⟨fun q => absurd (by rw [a2]) q, fun _ => key _ ?_⟩
        rw [iw_neg hu (by omega) (by omega), show mo_g a = -1 from if_pos (by omega)]; omega
      · have ei : a / 2 = i := by omega
        rw [ea, (mo_o i).2.1, ← ei] at a2
        refine ⟨fun _ => key _ ?_, fun q => absurd (nu_inj (by omega) (by omega) q) (fun q => k3 (a2.trans q.symm))⟩
        rw [hu, show mo_g a = 1 from if_neg (by omega)]; omega
  exact c_X3_change (Nat.zero_le _) (loop l e 0 x v fr.rf hmx (by omega) he hn (fun _ _ => rfl) hP hQ)
theorem k_mTakeBack {e z : Nat} {l : List Nat} (hd : 3 ≤ d) (hR : cr_R v h H) (hW : hs_W H) (hmx : mc_x v (mo_L H b) (Hh H 1) x) (hs : mc_s v (Hh H 0) (lp_sp (mo_L H b) (Hh H 1) x)) (hw : mc_w v (Hh H 0) D P) (hI : mo_I (mo_L H b) (Hh H 0) (Hh H 1) x p M) (hWg : mo_W (mo_L H b) (Hh H 0) (Hh H 1) x D P t) (he : e < Hh H 0) (hz : z < Hh H 0) (hl : l.length ≤ 7) (hP : mo_P (mo_L H b) x P z e l) (hse : 0 < lp_sp (mo_L H b) (Hh H 1) x e) (hsz : lp_sp (mo_L H b) (Hh H 1) x z < 0)
    (hQ : ∀ v' U, fr fMo v v' → 0 < U → U ≤ lp_sp (mo_L H b) (Hh H 1) x e → (∀ a ∈ l, U ≤ mo_r (mo_L H b) x a) → U ≤ -(lp_sp (mo_L H b) (Hh H 1) x z) → mc_x v' (mo_L H b) (Hh H 1) (mo_p x U l) → mc_s v' (Hh H 0) (lp_sp (mo_L H b) (Hh H 1) (mo_p x U l)) → Q (Sum.inl (some (zI 1))) v') :
    gd_C g mX3_takeBack d 0 0 [zR 3 0, zR 2 h, zI (nI e)] v Q := by
  have h8 := hW.1
  have h24 := hW.2.1
  have hK := mo_L.ok b hW
  have hxb : ∀ i, i < Hh H 1 → 0 ≤ x i ∧ x i ≤ lL (mo_L H b) i := fun i hi => ⟨(hI.1 i hi).1, (hI.1 i hi).2.1⟩
  have bd : ∀ d', d' < Hh H 0 → -24000 ≤ lp_sp (mo_L H b) (Hh H 1) x d' ∧ lp_sp (mo_L H b) (Hh H 1) x d' ≤ 224000 := fun d' hd' => by
    have := lp_sp_bd hK hxb hd' (Hh H 1) (Nat.le_refl _)
    omega
  have ez : e ≠ z := fun q => by rw [q] at hse; omega
  have hm : ∀ w a, P w = some a → a < 2 * Hh H 1 ∧ bH (mo_N (mo_L H b) x) a = w := fun w a q => ⟨(hWg.2.1 w a q).1, (hWg.2.1 w a q).2.2.1⟩
  have loop : ∀ (m : List Nat) (w a6 : Nat) (am : Int64), a6 + m.length ≤ 7 → w < Hh H 0 → mo_P (mo_L H b) x P z w m → 0 < am.toInt → (∀ u : Int64, 0 < u.toInt → u.toInt ≤ am.toInt → (∀ a ∈ m, u.toInt ≤ mo_r (mo_L H b) x a) → u.toInt ≤ -(lp_sp (mo_L H b) (Hh H 1) x z) → gd_C g mX3_change 2 0 0 [zR 3 0, zR 2 h, zI (nI e), zI u.toInt32] (gd_sJ (gd_sJ v 18 0 z ((v.2.1 18 0 z) + u)) 18 0 e (((gd_sJ v 18 0 z ((v.2.1 18 0 z) + u)).2.1 18 0 e) - u)) (gd_rV (fun v5 => Q (Sum.inl (some (zI 1))) v5) (fun E v9 => Q (Sum.inr E) v9))) → gd_G g mX3_takeBack d 0 0 13 [(0, zR 3 0), (1, zR 2 h), (2, zI (nI e)), (3, zJ am), (5, zI (nI w)), (6, zI (nI a6))] [] v Q := by
    intro m
    induction m with
    | nil =>
      intro w a6 am ha hw' hp ham K
      simp only [List.length_nil] at ha
      have ewz : w = z := hp.1
      refine w_X3_takeBack_13 hd (pk_le 8 a6 (fun q => absurd q (by omega)) (fun _ => ⟨nu_in (by omega) (by omega), ?_⟩) rfl rfl (by omega) (by omega))
      rw [nI_clamp (n := w) (by omega), (hw w hw').2, hp.2]
      refine ⟨fun _ => ?_, fun q => absurd rfl q⟩
      unfold wp_X3_takeBack_136
      rw [nI_clamp (n := w) (by omega), nI_clamp (n := e) (by omega), ewz]
      refine ⟨nu_in (by omega) (by omega), c_minJ ?_⟩
      rw [gd_rJ_at]
      have nz := jw_neg (hs z hz) (by have := bd z hz; omega) (by have := bd z hz; omega)
      obtain ⟨m1, m2, m3⟩ := jw_min (x := am) (y := -(v.2.1 18 0 z))
      have m4 := m3 ham (by rw [nz]; omega)
      refine jk_lt (a := 0) (by decide) rfl (fun _ => ?_) (fun q => absurd q (by omega))
      refine ⟨nu_in (by omega) (by omega), nu_in (by omega) (by omega), ?_⟩
      rintro _ rfl
      refine ⟨nu_in (by omega) (by omega), nu_in (by omega) (by omega), ?_⟩
      rintro _ rfl
      exact K _ m4 m1 (fun a h => by cases h) (by rw [nz] at m2; exact m2)
    | cons a m ih =>
      intro w a6 am ha hw' hp ham K
      simp only [List.length_cons] at ha
      obtain ⟨a1, a2⟩ := hm w a hp.1
      have hi : a / 2 < Hh H 1 := by omega
      obtain ⟨k1, k2, k3, k4, k5, k6, k7⟩ := hK.2.2.1 (a / 2) hi
      have e0 : v.1 9 (24 * h + a / 2) 0 = nI (lS (mo_L H b) (a / 2)) := hR.2.2.2.1 _ hi 0 (by decide)
      have e1 : v.1 9 (24 * h + a / 2) 1 = nI (lB (mo_L H b) (a / 2)) := hR.2.2.2.1 _ hi 1 (by decide)
      have xb := hxb _ hi
      have key : ∀ s0 : Int32, s0.toInt = mo_r (mo_L H b) x a → wp_X3_takeBack_95 g d h (nI e) am (nI w) (nI a6) (24 * h + a / 2) s0 v Q := by
        intro s0 hs0
        unfold wp_X3_takeBack_95
        refine c_minJ ?_
        rw [gd_rJ_at, nu_1, e0, e1]
        have on := (hWg.2.1 w a hp.1).2.1
        have s1 : (s0.toInt64).toInt = mo_r (mo_L H b) x a := by rw [Int32.toInt_toInt64]; exact hs0
        obtain ⟨m1, m2, m3⟩ := jw_min (x := am) (y := s0.toInt64)
        have rpos : 0 < mo_r (mo_L H b) x a := by
          rcases mo_2 a with ⟨i, ea⟩ | ⟨i, ea⟩
          · have ei : a / 2 = i := by omega
            rw [ea] at on
            have := (mo_e i).2.2.2.mp on
            unfold mo_r; rw [if_pos (by omega), ei]; exact this
          · have ei : a / 2 = i := by omega
            rw [ea] at on
            have := (mo_o i).2.2.2.mp on
            unfold mo_r; rw [if_neg (by omega), ei]; omega
        have step : bT (mo_N (mo_L H b) x) a < Hh H 0 → gd_G g mX3_takeBack d 0 0 13 [(0, zR 3 0), (1, zR 2 h), (2, zI (nI e)), (3, zJ (if s0.toInt64 < am then s0.toInt64 else am)), (5, zI (nI (bT (mo_N (mo_L H b) x) a))), (6, zI (nI (a6 + 1)))] [] v Q := fun hbt => by
          refine ih _ (a6 + 1) _ (by omega) hbt hp.2 (m3 ham (by rw [s1]; exact rpos)) (fun u u1 u2 u3 u4 => K u u1 (Int.le_trans u2 m1) (fun a' ha' => ?_) u4)
          rcases List.mem_cons.mp ha' with rfl | ha'
          · rw [s1] at m2; exact Int.le_trans u2 m2
          · exact u3 a' ha'
        rcases mo_2 a with ⟨i, ea⟩ | ⟨i, ea⟩
        · have ei : a / 2 = i := by omega
          rw [ea, (mo_e i).2.1] at a2
          rw [ea, (mo_e i).1, ← ei] at step
          rw [← ei] at a2
          exact ⟨fun q => absurd (by rw [a2]) q, fun _ => step k1⟩
        · have ei : a / 2 = i := by omega
          rw [ea, (mo_o i).2.1] at a2
          rw [ea, (mo_o i).1, ← ei] at step
          rw [← ei] at a2
          exact ⟨fun _ => step k2, fun q => absurd (nu_inj (by omega) (by omega) q) (fun q => k3 (a2.trans q.symm))⟩
      refine w_X3_takeBack_13 hd (pk_le 8 a6 (fun q => absurd q (by omega)) (fun _ => ⟨nu_in (by omega) (by omega), ?_⟩) rfl rfl (by omega) (by omega))
      rw [nI_clamp (n := w) (by omega), (hw w hw').2, hp.1]
      refine ⟨fun q => absurd q (nu_m1 (by omega)), fun _ => ?_⟩
      have ec : (mc_c (some a)).toNatClampNeg = a / 2 := nI_clamp (by omega)
      have ei : vp_in (mc_c (some a)) 24 := nu_in (by omega) (by omega)
      rw [ec]
      refine ⟨nu_in (by omega) (by omega), ei, ?_⟩
      rintro _ rfl
      rw [e1]
      rcases mo_2 a with ⟨i, ea⟩ | ⟨i, ea⟩
      · have ei : a / 2 = i := by omega
        rw [ea, (mo_e i).2.1, ← ei] at a2
        refine ⟨fun q => absurd (by rw [a2]) q, fun _ => ⟨nu_in (by omega) (by omega), nu_in (by omega) (by omega), ?_⟩⟩
        rintro _ rfl
        refine key _ ?_
        rw [(hmx _ hi).1]; unfold mo_r; rw [if_pos (by omega)]
      · have ei : a / 2 = i := by omega
        rw [ea, (mo_o i).2.1, ← ei] at a2
        refine ⟨fun _ => ⟨nu_in (by omega) (by omega), nu_in (by omega) (by omega), ?_⟩, fun q => absurd (nu_inj (by omega) (by omega) q) (fun q => k3 (a2.trans q.symm))⟩
        rintro _ rfl
        refine ⟨nu_in (by omega) (by omega), nu_in (by omega) (by omega), ?_⟩
        rintro _ rfl
        refine key _ ?_
        rw [iw_sub (hmx _ hi).2 (hmx _ hi).1 (by omega) (by omega)]; unfold mo_r; rw [if_neg (by omega)]
  have se := hs e he
  refine c_X3_takeBack (Nat.zero_le _) ⟨nu_in (by omega) (by omega), ?_⟩
  rw [nI_clamp (n := e) (by omega)]
  refine loop l e 0 _ (by omega) he hP (by rw [se]; exact hse) (fun u u1 u2 u3 u4 => ?_)
  rw [se] at u2
  have be := bd e he
  have u32 : u.toInt32.toInt = u.toInt := by rw [Int64.toInt_toInt32, Int.bmod_eq_of_le (by omega) (by omega)]
  have f1 : fr (fy [(18, 0)]) v (gd_sJ (gd_sJ v 18 0 z ((v.2.1 18 0 z) + u)) 18 0 e (((gd_sJ v 18 0 z ((v.2.1 18 0 z) + u)).2.1 18 0 e) - u)) := (fr.sJ (fy_y 0 rfl)).tr (fr.sJ (fy_y 0 rfl))
  have hR' : cr_R (gd_sJ (gd_sJ v 18 0 z ((v.2.1 18 0 z) + u)) 18 0 e (((gd_sJ v 18 0 z ((v.2.1 18 0 z) + u)).2.1 18 0 e) - u)) h H := hR.mo hW (f1.wk (fy_1 2 rfl))
  have hmx' : mc_x (gd_sJ (gd_sJ v 18 0 z ((v.2.1 18 0 z) + u)) 18 0 e (((gd_sJ v 18 0 z ((v.2.1 18 0 z) + u)).2.1 18 0 e) - u)) (mo_L H b) (Hh H 1) x := hmx
  have hw' : ∀ w, w < Hh H 0 → (gd_sJ (gd_sJ v 18 0 z ((v.2.1 18 0 z) + u)) 18 0 e (((gd_sJ v 18 0 z ((v.2.1 18 0 z) + u)).2.1 18 0 e) - u)).1 20 0 w = mc_c (P w) := fun w hw1 => (hw w hw1).2
  refine k_change u32 ⟨by omega, by omega⟩ hR' hW hm hw' (fun i hi => ⟨(hxb i hi).1, Int.le_trans (hxb i hi).2 (hK.2.2.1 i hi).2.2.2.2.1⟩) hmx' he hl (mo_P.nd hWg l e hP) hP (fun v' f' m' => ?_)
  rw [gd_rV_at]
  refine hQ v' u.toInt ((f1.wk (fy_1 2 rfl)).tr (f'.wk (fy_1 0 rfl))) u1 u2 u3 u4 m' (fun d' hd' => ?_)
  rw [f'.J (fun _ => fy_n rfl), mo_p_sp hm l e x hP d']
  have bz := bd z hz
  by_cases c1 : d' = e
  · subst c1
    rw [sJ_at, sJ_ne (by omega), if_neg ez, if_pos rfl, jw_sub se rfl (by omega) (by omega)]
    omega
  · rw [sJ_ne (by omega), if_neg c1]
    by_cases c2 : d' = z
    · subst c2
      rw [sJ_at, if_pos rfl, jw_add (hs _ hz) rfl (by omega) (by omega)]
      omega
    · rw [sJ_ne (by omega), if_neg c2, hs d' hd']
      omega
theorem k_mSum (hd : 4 ≤ d) (hR : cr_R v h H) (hW : hs_W H) (hQ : ∀ v' y x p, fr fMo v v' → lp_O (mo_L H b) (Hh H 0) (Hh H 1) x p → y.toInt = lp_V (mo_L H b) (Hh H 1) x → Q (Sum.inl (some (zJ y))) v') : gd_C g mX3_sum d 0 0 [zR 3 0, zR 2 h, zI (b2 b)] v Q := by
  have h8 := hW.1
  have h24 := hW.2.1
  have hK := mo_L.ok b hW
  have fin : ∀ u x p, fr fMo v u → mc_x u (mo_L H b) (Hh H 1) x → lp_O (mo_L H b) (Hh H 0) (Hh H 1) x p → wp_X3_sum_60 g d h (b2 b) u Q := by
    intro u x p hf hx hO
    have hR' := hR.mo hW hf
    have pr : ∀ i, i < Hh H 1 → 0 ≤ lG (mo_L H b) i * x i ∧ lG (mo_L H b) i * x i ≤ 10000000 := fun i hi => by
      obtain ⟨k1, k2, k3, k4, k5, k6, k7⟩ := hK.2.2.1 i hi
      obtain ⟨x1, x2⟩ := hO.1.1 i hi
      have m1 := Int.mul_le_mul_of_nonneg_right k7 x1
      exact ⟨Int.mul_nonneg k6 x1, by omega⟩
    have loop : ∀ k i y, i + k = Hh H 1 → y.toInt = sm (fun i => lG (mo_L H b) i * x i) i → gd_G g mX3_sum d 0 0 65 [(0, zR 3 0), (1, zR 2 h), (2, zI (b2 b)), (3, zJ y), (5, zI (nI i))] [] u Q := by
      intro k
      induction k with
      | zero =>
        intro i y hi hy
        have e : i = Hh H 1 := by omega
        subst e
        exact w_X3_sum_65 (by omega) (pk_le (Hh H 1) (Hh H 1) (fun _ => hQ u y x p hf hO hy) (fun q => absurd q (Nat.lt_irrefl _)) (hR'.1 1 (by omega)) rfl (by omega) (by omega))
      | succ k ih =>
        intro i y hi hy
        have hlt : i < Hh H 1 := by omega
        refine w_X3_sum_65 (by omega) (pk_le (Hh H 1) i (fun q => absurd q (by omega)) (fun _ => ⟨nu_in (by omega) (by omega), ?_⟩) (hR'.1 1 (by omega)) rfl (by omega) (by omega))
        rw [nI_clamp (n := i) (by omega), nu_1]
        rintro _ rfl
        refine ⟨nu_in (by omega) (by omega), k_gain hR' hW hlt (fun r hr => ?_)⟩
        rw [gd_rJ_at]
        obtain ⟨s1, s2⟩ := sm_bd (f := fun i => lG (mo_L H b) i * x i) i (fun j hj => pr j (by omega))
        have pi := pr i hlt
        have ex : (Int32.toInt64 (u.1 16 0 i)).toInt = x i := by rw [Int32.toInt_toInt64]; exact (hx i hlt).1
        have em := jw_mul ex hr (by rw [Int.mul_comm]; omega) (by rw [Int.mul_comm]; omega)
        rw [Int.mul_comm] at em
        have ja := jw_add hy em (by omega) (by omega)
        exact ih (i + 1) _ (by omega) ja
    exact loop (Hh H 1) 0 0 (by omega) rfl
  have main : ∀ (f r : Nat) u x p M, mo_s (mo_L H b) (Hh H 0) (Hh H 1) x ≤ (f : Int) → r + f ≤ 24000 → fr fMo v u → mc_x u (mo_L H b) (Hh H 1) x → mc_s u (Hh H 0) (lp_sp (mo_L H b) (Hh H 1) x) → mo_I (mo_L H b) (Hh H 0) (Hh H 1) x p M → gd_G g mX3_sum d 0 0 7 [(0, zR 3 0), (1, zR 2 h), (2, zI (b2 b)), (3, zI (nI r))] [] u Q := by
    intro f
    induction f with
    | zero =>
      intro r u x p M hm hr hf hx hs hI
      have hR' := hR.mo hW hf
      have ge : ∀ z, z < Hh H 0 → ¬ lp_sp (mo_L H b) (Hh H 1) x z < 0 := fun z hz hlt => by
        have h1 : sm (up (fun _ => 0) z 1) (Hh H 0) ≤ mo_s (mo_L H b) (Hh H 0) (Hh H 1) x := by
          refine sm_le _ (fun i _ => ?_)
          by_cases c : i = z
          · subst c; rw [up_at, if_pos hlt]; omega
          · rw [up_ne _ _ c]; split <;> omega
        rw [sm_up, sm_0, if_pos hz] at h1
        omega
      refine w_X3_sum_7 hd (pk_le 24001 r (fun q => absurd q (by omega)) (fun _ => k_isShort hR' hW hs (fun hn => ?_) (fun z hz hlt => absurd hlt (ge z hz))) rfl rfl (by omega) (by omega))
      rw [gd_rI_at]
      exact ⟨fun _ => fin u x p hf hx ⟨⟨fun i hi => ⟨(hI.1 i hi).1, (hI.1 i hi).2.1⟩, hn⟩, fun i hi => (hI.1 i hi).2.2, fun d' hd' => ⟨(hI.2.1 d' hd').1, (hI.2.1 d' hd').2.2.2⟩⟩, fun q => absurd rfl q⟩
    | succ f ih =>
      intro r u x p M hm hr hf hx hs hI
      have hR' := hR.mo hW hf
      refine w_X3_sum_7 hd (pk_le 24001 r (fun q => absurd q (by omega)) (fun _ => k_isShort hR' hW hs (fun hn => ?_) (fun z hz hlt => ?_)) rfl rfl (by omega) (by omega))
      · rw [gd_rI_at]
        exact ⟨fun _ => fin u x p hf hx ⟨⟨fun i hi => ⟨(hI.1 i hi).1, (hI.1 i hi).2.1⟩, hn⟩, fun i hi => (hI.1 i hi).2.2, fun d' hd' => ⟨(hI.2.1 d' hd').1, (hI.2.1 d' hd').2.2.2⟩⟩, fun q => absurd rfl q⟩
      · rw [gd_rI_at]
        refine ⟨fun q => absurd q (by decide), fun _ => k_weighLosses (Nat.le_refl 3) hR' hW hx hs hI (fun v' D P t f' w' W' M' => ?_)⟩
        rw [gd_rV_at]
        have hf' := hf.tr (fMw.wk f')
        have hR2 := hR.mo hW hf'
        refine k_cheapestEnd hR2 hW (hs.w f') w' (fun hno => ?_) (fun e he hse hDe hmin => ?_)
        · exact (mo_some hK (fun i hi => ⟨(hI.1 i hi).1, (hI.1 i hi).2.1⟩) W' hz hlt hno).elim
        · rw [gd_rI_at]
          refine ⟨fun q => absurd q (nu_m1 (by omega)), fun _ => ?_⟩
          obtain ⟨z', l, l1, l2, l3, l4, l5⟩ := mo_path hK W' _ e (Nat.lt_succ_self _) he hDe
          have c8 := ct_top (p := fun y => decide (t y < t e)) (Hh H 0) e he (by simp)
          refine k_mTakeBack (Nat.le_refl 3) hR2 hW (hx.w f') (hs.w f') w' hI W' he l3 (by omega) l1 hse l4 (fun v2 U f2 U0 U1 U2 U3 x2 s2 => ?_)
          rw [gd_rI_at, nu_1]
          refine ⟨fun _ => ?_, fun q => absurd q (by decide)⟩
          have dec := mo_s_round (n := Hh H 0) l3 hse U0 U1 U3 (mo_p_sp (u := U) (fun w a q => ⟨(W'.2.1 w a q).1, (W'.2.1 w a q).2.2.1⟩) l e x l1)
          exact ih (r + 1) v2 _ _ _ (by omega) (by omega) (hf'.tr f2) x2 s2 (mo_round hK hI W' M' he l3 hse hDe hmin l1 U0 U1 U2 U3)
  refine c_X3_sum hd (k_settleAll (b := b) (Nat.le_refl 3) hR hW (fun v' f' x' s' => ?_))
  rw [gd_rV_at]
  have st := mo_s_start hK (Hh H 1) (Nat.le_refl _)
  refine main 24000 0 v' (lL (mo_L H b)) (fun _ => 0) 0 (by omega) (by omega) f' x' s' ⟨fun i hi => ?_, fun d' hd' => ⟨Int.le_refl _, Int.le_refl _, fun _ => rfl, fun _ => rfl⟩, by omega⟩
  obtain ⟨k1, k2, k3, k4, k5, k6, k7⟩ := hK.2.2.1 i hi
  exact ⟨k4, Int.le_refl _, fun _ => (show (0 : Int) - 0 ≤ lG (mo_L H b) i by omega), fun q => absurd q (by omega)⟩
/-- the value: the most -/
def mo_val (H : hs_T) (b : Bool) (y : Int64) : Prop := ∃ x p, lp_O (mo_L H b) (Hh H 0) (Hh H 1) x p ∧ y.toInt = lp_V (mo_L H b) (Hh H 1) x
theorem mo_val.one {H : hs_T} {b : Bool} {y z : Int64} (hW : hs_W H) (h1 : mo_val H b y) (h2 : mo_val H b z) : y = z := by
  obtain ⟨x, p, a1, a2⟩ := h1
  obtain ⟨x', p', b1, b2⟩ := h2
  have hK := mo_L.ok b hW
  refine Int64.toInt_inj.mp ?_
  rw [a2, b2]
  exact lp_same (fun i hi => ⟨(hK.2.2.1 i hi).1, (hK.2.2.1 i hi).2.1⟩) a1 b1
theorem k_most {S : gs_T} {x : Int32} (hd : 10 ≤ d) (hG : gc_R v S) (hS : gs_ok S) (h0 : ¬ (x = 0 ∨ x = 1) → ∀ v', fcl v v' → gc_R v' (gs_no S 1) → Q (Sum.inr "java/lang/IllegalArgumentException") v') (h1 : ∀ bb, x = b2 bb → ∀ v' y, fcl v v' → gc_R v' S → mo_val S.1 bb y → Q (Sum.inl (some (zJ y))) v') : gd_C g mX10_most d 1 6 [zR 10 0, zI x] v Q := by
  have main : ∀ bb, x = b2 bb → wp_X10_most_25 g d 9 (b2 bb) v Q := by
    intro bb e
    unfold wp_X10_most_25
    refine k_mSum (b := bb) (Nat.le_refl 4) hG.1 hS.1 (fun v' y x' p' f' o' e' => ?_)
    rw [gd_rJ_at]
    obtain ⟨g1, g2⟩ := gc_tool hG hS f' rfl
    exact h1 bb e v' y g2 g1 ⟨x', p', o', e'⟩
  refine c_X10_most hd (k_needWithin (Nat.le_refl 9) hG hS (fun q1 q2 => ?_) (fun q v' f' G' => ?_))
  · have e : x = 0 ∨ x = 1 := by
      rw [Int32.le_iff_toInt_le] at q1 q2
      have z0 : (0 : Int32).toInt = 0 := by decide
      have z1 : (1 : Int32).toInt = 1 := by decide
      by_cases c : x.toInt = 0
      · exact Or.inl (Int32.toInt_inj.mp (by omega))
      · exact Or.inr (Int32.toInt_inj.mp (by omega))
    rcases e with e | e
    · exact ⟨fun _ => main false e, fun q => absurd (e.symm.trans q) (by decide)⟩
    · exact ⟨fun q => absurd e q, fun _ => main true e⟩
  · exact h0 (fun c => q (by rcases c with rfl | rfl <;> decide)) v' f' G'
end CMT
