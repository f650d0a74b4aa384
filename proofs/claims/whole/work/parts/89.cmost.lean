/-! MOST: the class's side -/
theorem jw_add {a b : Int64} {x y : Int} (ha : a.toInt = x) (hb : b.toInt = y) (h1 : -4000000000000000000 ≤ x + y) (h2 : x + y ≤ 4000000000000000000) : (a + b).toInt = x + y := by
  rw [Int64.toInt_add, ha, hb, Int.bmod_eq_of_le (by omega) (by omega)]
theorem jw_sub {a b : Int64} {x y : Int} (ha : a.toInt = x) (hb : b.toInt = y) (h1 : -4000000000000000000 ≤ x - y) (h2 : x - y ≤ 4000000000000000000) : (a - b).toInt = x - y := by
  rw [Int64.toInt_sub, ha, hb, Int.bmod_eq_of_le (by omega) (by omega)]
theorem jw_mul {a b : Int64} {x y : Int} (ha : a.toInt = x) (hb : b.toInt = y) (h1 : -4000000000000000000 ≤ x * y) (h2 : x * y ≤ 4000000000000000000) : (a * b).toInt = x * y := by
  rw [Int64.toInt_mul, ha, hb, Int.bmod_eq_of_le (by omega) (by omega)]
theorem jw_neg {a : Int64} {x : Int} (ha : a.toInt = x) (h1 : -4000000000000000000 ≤ -x) (h2 : -x ≤ 4000000000000000000) : (-a).toInt = -x := by
  rw [Int64.toInt_neg, ha, Int.bmod_eq_of_le (by omega) (by omega)]
theorem iw_add {a b : Int32} {x y : Int} (ha : a.toInt = x) (hb : b.toInt = y) (h1 : -2000000000 ≤ x + y) (h2 : x + y ≤ 2000000000) : (a + b).toInt = x + y := by
  rw [Int32.toInt_add, ha, hb, Int.bmod_eq_of_le (by omega) (by omega)]
theorem iw_sub {a b : Int32} {x y : Int} (ha : a.toInt = x) (hb : b.toInt = y) (h1 : -2000000000 ≤ x - y) (h2 : x - y ≤ 2000000000) : (a - b).toInt = x - y := by
  rw [Int32.toInt_sub, ha, hb, Int.bmod_eq_of_le (by omega) (by omega)]
theorem iw_neg {a : Int32} {x : Int} (ha : a.toInt = x) (h1 : -2000000000 ≤ -x) (h2 : -x ≤ 2000000000) : (-a).toInt = -x := by
  rw [Int32.toInt_neg, ha, Int.bmod_eq_of_le (by omega) (by omega)]
theorem jk_le {x y : Int64} {A B : Prop} {a b : Int} (hx : x.toInt = a) (hy : y.toInt = b) (f : a ≤ b → A) (g : b < a → B) : (x ≤ y → A) ∧ (¬ x ≤ y → B) := by
  rw [Int64.le_iff_toInt_le, hx, hy]
  exact ⟨f, fun q => g (by omega)⟩
theorem jk_lt {x y : Int64} {A B : Prop} {a b : Int} (hx : x.toInt = a) (hy : y.toInt = b) (f : a < b → A) (g : b ≤ a → B) : (x < y → A) ∧ (¬ x < y → B) := by
  rw [Int64.lt_iff_toInt_lt, hx, hy]
  exact ⟨f, fun q => g (by omega)⟩
theorem ik_le {x y : Int32} {A B : Prop} {a b : Int} (hx : x.toInt = a) (hy : y.toInt = b) (f : a ≤ b → A) (g : b < a → B) : (x ≤ y → A) ∧ (¬ x ≤ y → B) := by
  rw [Int32.le_iff_toInt_le, hx, hy]
  exact ⟨f, fun q => g (by omega)⟩
def mo_L (H : hs_T) (b : Bool) : lpT := (fun i => Hs H i 0, fun i => Hs H i 1, fun i => if hq H i then (Hs H i 5 : Int) else 0, fun i => if b then (Hs H i 3 : Int) else 1, fun d => (Hd H d 0 : Int))
theorem mo_L.ok {H : hs_T} (b : Bool) (hW : hs_W H) : lp_K (mo_L H b) (Hh H 0) (Hh H 1) := by
  have hu := hW.used
  refine ⟨hW.1, hW.2.1, fun i hi => ?_, fun d hd => ?_⟩
  · obtain ⟨s1, s2, s0, s3, s4, s5, s6⟩ := hW.2.2.2.2.2.2.2.2.1 i hi
    show Hs H i 0 < _ ∧ Hs H i 1 < _ ∧ Hs H i 0 ≠ Hs H i 1 ∧ 0 ≤ (if hq H i then (Hs H i 5 : Int) else 0) ∧ (if hq H i then (Hs H i 5 : Int) else 0) ≤ 1000 ∧ 0 ≤ (if b then (Hs H i 3 : Int) else 1) ∧ (if b then (Hs H i 3 : Int) else 1) ≤ 10000
    refine ⟨s1, s2, s0, ?_, ?_, ?_, ?_⟩ <;> split <;> omega
  · have := (hW.2.2.2.2.2.2.2.1 d hd).1
    show 0 ≤ (Hd H d 0 : Int) ∧ (Hd H d 0 : Int) ≤ 200000
    omega
abbrev fMo : Nat → Nat → Nat → Prop := fy [(16, 0), (17, 0), (18, 0), (19, 0), (20, 0)]
def mc_x (v : gd_D) (L : lpT) (m : Nat) (x : Nat → Int) : Prop := ∀ i, i < m → (v.1 16 0 i).toInt = x i ∧ (v.1 17 0 i).toInt = lL L i
def mc_s (v : gd_D) (n : Nat) (f : Nat → Int) : Prop := ∀ d, d < n → (v.2.1 18 0 d).toInt = f d
def mc_c : Option Nat → Int32
  | none => -1
  | some a => nI (a / 2)
def mc_w (v : gd_D) (n : Nat) (D : Nat → Int) (P : Nat → Option Nat) : Prop := ∀ w, w < n → (v.2.1 19 0 w).toInt = D w ∧ v.1 20 0 w = mc_c (P w)
section CMO
variable {g : ab_E} {d h : Nat} {v : gd_D} {Q : ab_O → gd_D → Prop} {H : hs_T} {b : Bool}
theorem cr_R.mo {v' : gd_D} (hR : cr_R v h H) (hW : hs_W H) (hf : fr fMo v v') : cr_R v' h H := hR.far hW hf (fun _ _ => fy_n rfl) (fun _ _ => fy_n rfl) (fun _ _ => fy_n rfl) (fun _ _ => fy_n rfl)
theorem k_gain {i : Nat} (hR : cr_R v h H) (hW : hs_W H) (hi : i < Hh H 1) (hQ : ∀ y : Int64, y.toInt = lG (mo_L H b) i → Q (Sum.inl (some (zJ y))) v) : gd_C g mX3_gain d 0 0 [zR 9 (24 * h + i), zI (b2 b)] v Q := by
  refine c_X3_gain (Nat.zero_le _) ⟨fun hc => hQ _ ?_, fun hc => hQ _ ?_⟩
  · rw [b2_0 hc]; rfl
  · rw [b2_1 hc, hR.2.2.2.1 i hi 3 (by decide), Int32.toInt_toInt64, nI_toInt (by have := (hW.2.2.2.2.2.2.2.2.1 i hi).2.2.2.2.1; omega)]
    rfl
theorem k_settleAll (hd : 3 ≤ d) (hR : cr_R v h H) (hW : hs_W H) (hQ : ∀ v', fr fMo v v' → mc_x v' (mo_L H b) (Hh H 1) (lL (mo_L H b)) → mc_s v' (Hh H 0) (lp_sp (mo_L H b) (Hh H 1) (lL (mo_L H b))) → Q (Sum.inl none) v') : gd_C g mX3_settleAll d 0 0 [zR 3 0, zR 2 h] v Q := by
  have h8 := hW.1
  have h24 := hW.2.1
  have hK := mo_L.ok b hW
  have loop2 : ∀ k i u, i + k = Hh H 1 → fr fMo v u → mc_x u (mo_L H b) i (lL (mo_L H b)) → mc_s u (Hh H 0) (lp_sp (mo_L H b) i (lL (mo_L H b))) → gd_G g mX3_settleAll d 0 0 34 [(0, zR 3 0), (1, zR 2 h), (2, zI (nI i))] [] u Q := by
    intro k
    induction k with
    | zero =>
      intro i u hi hf hx hs
      have e : i = Hh H 1 := by omega
      subst e
      have hR' := hR.mo hW hf
      exact w_X3_settleAll_34 hd (pk_le (Hh H 1) (Hh H 1) (fun _ => hQ u hf hx hs) (fun q => absurd q (Nat.lt_irrefl _)) (hR'.1 1 (by omega)) rfl (by omega) (by omega))
    | succ k ih =>
      intro i u hi hf hx hs
      have hlt : i < Hh H 1 := by omega
      have hR' := hR.mo hW hf
      obtain ⟨k1, k2, k3, k4, k5, k6, k7⟩ := hK.2.2.1 i hlt
      have e0 := hR'.2.2.2.1 i hlt 0 (by decide)
      have e1 := hR'.2.2.2.1 i hlt 1 (by decide)
      have fin : ∀ y : Int32, y.toInt = lL (mo_L H b) i → wp_X3_settleAll_68 g d h (nI i) (nI i) y u Q := by
        intro y hy
        unfold wp_X3_settleAll_68
        rw [nI_clamp (n := i) (by omega)]
        refine ⟨nu_in (by omega) (by omega), ?_⟩
        intro v1 ev1
        refine ⟨nu_in (by omega) (by omega), nu_in (by omega) (by omega), ?_⟩
        intro v2 ev2
        refine ⟨nu_in (by omega) (by omega), ?_⟩
        intro x3 ex3
        have a17 : v1.1 17 0 i = y := by rw [ev1]; exact sI_at
        have b17 : v2.1 17 0 i = y := by rw [ev2, sI_ne (by omega)]; exact a17
        have ex3' : x3 = nI (Hs H i 0) := by rw [ex3, ev2, sI_ne (by omega), ev1, sI_ne (by omega)]; exact e0
        have k1' : Hs H i 0 < Hh H 0 := k1
        have k2' : Hs H i 1 < Hh H 0 := k2
        have k3' : Hs H i 0 ≠ Hs H i 1 := k3
        subst ex3'
        rw [nI_clamp (n := Hs H i 0) (by omega)]
        refine ⟨nu_in (by omega) (by omega), nu_in (by omega) (by omega), ?_⟩
        intro y4 ey4
        refine ⟨nu_in (by omega) (by omega), ?_⟩
        intro v5 ev5
        refine ⟨nu_in (by omega) (by omega), ?_⟩
        intro x6 ex6
        have ex6' : x6 = nI (Hs H i 1) := by rw [ex6, ev5, sJ_I, ev2, sI_ne (by omega), ev1, sI_ne (by omega)]; exact e1
        subst ex6'
        rw [nI_clamp (n := Hs H i 1) (by omega)]
        refine ⟨nu_in (by omega) (by omega), nu_in (by omega) (by omega), ?_⟩
        intro y7 ey7
        refine ⟨nu_in (by omega) (by omega), ?_⟩
        intro v8 ev8
        have hy4 : y4.toInt = lL (mo_L H b) i := by rw [ey4, Int32.toInt_toInt64, b17]; exact hy
        have hy7 : y7.toInt = lL (mo_L H b) i := by rw [ey7, Int32.toInt_toInt64, ev5, sJ_I, b17]; exact hy
        have f8 : fr fMo u v8 := by
          rw [ev8, ev5, ev2, ev1]
          exact ((((fr.sI (fy_y 1 rfl)).tr (fr.sI (fy_y 0 rfl))).tr (fr.sJ (fy_y 2 rfl))).tr (fr.sJ (fy_y 2 rfl)))
        have J2 : v2.2.1 = u.2.1 := by rw [ev2, sI_J, ev1, sI_J]
        rw [nu_1]
        refine ih (i + 1) v8 (by omega) (hf.tr f8) (fun j hj => ?_) (fun d' hd' => ?_)
        · by_cases ej : j = i
          · subst ej
            rw [ev8, sJ_I, ev5, sJ_I, b17, ev2, sI_at, a17]
            exact ⟨hy, hy⟩
          · rw [ev8, sJ_I, ev5, sJ_I, ev2, sI_ne (by omega), sI_ne (by omega), ev1, sI_ne (by omega), sI_ne (by omega)]
            exact hx j (by omega)
        · have bd := lp_sp_bd hK (x := lL (mo_L H b)) (fun i hi => ⟨(hK.2.2.1 i hi).2.2.2.1, Int.le_refl _⟩) hd' i (by omega)
          have hsd := hs d' hd'
          have e : lp_sp (mo_L H b) (i + 1) (lL (mo_L H b)) d' = lp_sp (mo_L H b) i (lL (mo_L H b)) d' + ((if Hs H i 1 = d' then lL (mo_L H b) i else 0) - (if Hs H i 0 = d' then lL (mo_L H b) i else 0)) := by
            show lK (mo_L H b) d' + (sm _ i + lp_h (mo_L H b) (lL (mo_L H b)) d' i) = lK (mo_L H b) d' + sm _ i + _
            unfold lp_h
            show lK (mo_L H b) d' + (sm _ i + ((if Hs H i 1 = d' then lL (mo_L H b) i else 0) - (if Hs H i 0 = d' then lL (mo_L H b) i else 0))) = _
            omega
          rw [e]
          by_cases c0 : d' = Hs H i 0
          · subst c0
            rw [if_neg (fun q => k3' q.symm), if_pos rfl, ev8, sJ_ne (by omega), ev5, sJ_at, J2]
            rw [jw_sub hsd hy4 (by omega) (by omega)]
            omega
          · by_cases c1 : d' = Hs H i 1
            · subst c1
              rw [if_pos rfl, if_neg k3', ev8, sJ_at, ev5, sJ_ne (by omega), J2]
              rw [jw_add hsd hy7 (by omega) (by omega)]
              omega
            · rw [if_neg (fun q => c1 q.symm), if_neg (fun q => c0 q.symm), ev8, sJ_ne (by omega), ev5, sJ_ne (by omega), J2, hsd]
              omega
      refine w_X3_settleAll_34 hd (pk_le (Hh H 1) i (fun q => absurd q (by omega)) (fun _ => k_isAsked hR' hW hlt ⟨fun hc => fin 0 ?_, fun hc => ⟨nu_in (by omega) (by omega), ?_⟩⟩) (hR'.1 1 (by omega)) rfl (by omega) (by omega))
      · show (0 : Int32).toInt = if hq H i then _ else 0
        rw [b2_0 hc]; rfl
      · rintro _ rfl
        refine fin _ ?_
        rw [nI_clamp (n := i) (by omega), hR'.2.2.2.1 i hlt 5 (by decide), nI_toInt (by have := hW.V.five hlt; omega)]
        show _ = if hq H i then _ else 0
        rw [b2_1 hc]; rfl
  have loop1 : ∀ k i u, i + k = Hh H 0 → fr fMo v u → (∀ d', d' < i → (u.2.1 18 0 d').toInt = lK (mo_L H b) d') → gd_G g mX3_settleAll d 0 0 2 [(0, zR 3 0), (1, zR 2 h), (2, zI (nI i))] [] u Q := by
    intro k
    induction k with
    | zero =>
      intro i u hi hf hs
      have e : i = Hh H 0 := by omega
      subst e
      have hR' := hR.mo hW hf
      refine w_X3_settleAll_2 (Nat.zero_le _) (pk_le (Hh H 0) (Hh H 0) (fun _ => loop2 (Hh H 1) 0 u (by omega) hf (fun j hj => absurd hj (by omega)) (fun d' hd' => ?_)) (fun q => absurd q (Nat.lt_irrefl _)) (hR'.1 0 (by omega)) rfl (by omega) (by omega))
      rw [hs d' hd']
      show _ = lK _ d' + 0
      omega
    | succ k ih =>
      intro i u hi hf hs
      have hlt : i < Hh H 0 := by omega
      have hR' := hR.mo hW hf
      refine w_X3_settleAll_2 (Nat.zero_le _) (pk_le (Hh H 0) i (fun q => absurd q (by omega)) (fun _ => ⟨nu_in (by omega) (by omega), ?_⟩) (hR'.1 0 (by omega)) rfl (by omega) (by omega))
      rw [nI_clamp (n := i) (by omega), (hR'.2.2.1 i hlt).1, nu_1]
      rintro _ rfl
      refine ⟨nu_in (by omega) (by omega), ?_⟩
      rintro _ rfl
      refine ih (i + 1) _ (by omega) (hf.tr (fr.sJ (fy_y 2 rfl))) (fun d' hd' => ?_)
      by_cases c : d' = i
      · subst c
        rw [sJ_at, Int32.toInt_toInt64, nI_toInt (by have := (hW.2.2.2.2.2.2.2.1 d' hlt).1; have := hW.used; omega)]
        rfl
      · rw [sJ_ne (by omega)]
        exact hs d' (by omega)
  exact c_X3_settleAll (Nat.zero_le _) (loop1 (Hh H 0) 0 v (by omega) fr.rf (fun d' hd' => absurd hd' (by omega)))
theorem k_isShort {f : Nat → Int} (hR : cr_R v h H) (hW : hs_W H) (hs : mc_s v (Hh H 0) f) (h0 : (∀ d, d < Hh H 0 → 0 ≤ f d) → Q (Sum.inl (some (zI 0))) v) (h1 : ∀ z, z < Hh H 0 → f z < 0 → Q (Sum.inl (some (zI 1))) v) : gd_C g mX3_isShort d 0 0 [zR 3 0, zR 2 h] v Q := by
  have h8 := hW.1
  have loop : ∀ k i, i + k = Hh H 0 → (∀ d', d' < i → 0 ≤ f d') → gd_G g mX3_isShort d 0 0 2 [(0, zR 3 0), (1, zR 2 h), (2, zI (nI i))] [] v Q := by
    intro k
    induction k with
    | zero =>
      intro i hi hf
      have e : i = Hh H 0 := by omega
      subst e
      exact w_X3_isShort_2 (Nat.zero_le _) (pk_le (Hh H 0) (Hh H 0) (fun _ => h0 hf) (fun q => absurd q (Nat.lt_irrefl _)) (hR.1 0 (by omega)) rfl (by omega) (by omega))
    | succ k ih =>
      intro i hi hf
      refine w_X3_isShort_2 (Nat.zero_le _) (pk_le (Hh H 0) i (fun q => absurd q (by omega)) (fun _ => ⟨nu_in (by omega) (by omega), ?_⟩) (hR.1 0 (by omega)) rfl (by omega) (by omega))
      rw [nI_clamp (n := i) (by omega), nu_1]
      refine jk_le (a := 0) (by decide) (hs i (by omega)) (fun q => ih (i + 1) (by omega) (fun d' hd' => ?_)) (fun q => h1 i (by omega) q)
      by_cases c : d' = i
      · subst c; exact q
      · exact hf d' (by omega)
  exact c_X3_isShort (Nat.zero_le _) (loop (Hh H 0) 0 (by omega) (fun d' hd' => absurd hd' (by omega)))
end CMO
