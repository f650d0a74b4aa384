/-! A PASS OF DELIVERY, on both sides -/
theorem hs_used_up {H H' : hs_T} {i u : Nat} (hi2 : Hs H i 5 ≤ Hs H i 2) (h2 : ∀ k, Hs H' k 2 = Hs H k 2) (h5 : ∀ k, ¬ k = i → Hs H' k 5 = Hs H k 5) (hu : Hs H' i 5 + u = Hs H i 5) : ∀ n, hs_used H' n = hs_used H n + if i < n then u else 0
  | 0 => by simp [hs_used]
  | n + 1 => by
    have ih := hs_used_up hi2 h2 h5 hu n
    show hs_used H' n + (Hs H' n 2 - Hs H' n 5) = hs_used H n + (Hs H n 2 - Hs H n 5) + _
    rw [ih, h2 n]
    by_cases e : n = i
    · subst e
      rw [if_neg (Nat.lt_irrefl n), if_pos (Nat.lt_succ_self n)]
      omega
    · rw [h5 n e]
      by_cases q : i < n
      · rw [if_pos q, if_pos (by omega)]; omega
      · rw [if_neg q, if_neg (by omega)]; omega
/-- units of a sale go from open to another place -/
def h_go (H : hs_T) (i u w : Nat) : hs_T := hsS (hsS H i 5 (Hs H i 5 - u)) i w (Hs H i w + u)
theorem h_go5 {H : hs_T} {i u w : Nat} (hw : ¬ w = 5) : Hs (h_go H i u w) i 5 = Hs H i 5 - u := (hsS_ne (by omega)).trans hsS_at
theorem h_gow {H : hs_T} {i u w : Nat} : Hs (h_go H i u w) i w = Hs H i w + u := hsS_at
theorem h_gon {H : hs_T} {i u w k j : Nat} (h5 : ¬ (k = i ∧ j = 5)) (hw : ¬ (k = i ∧ j = w)) : Hs (h_go H i u w) k j = Hs H k j := (hsS_ne hw).trans (hsS_ne h5)
theorem h_go_used {H : hs_T} {i u w : Nat} (hi2 : Hs H i 5 ≤ Hs H i 2) (hu : u ≤ Hs H i 5) (hw : 6 ≤ w) (n : Nat) (hi : i < n) : hs_used (h_go H i u w) n = hs_used H n + u := by
  have := hs_used_up (H := H) (H' := h_go H i u w) (i := i) (u := u) hi2 (fun k => h_gon (by omega) (by omega)) (fun k hk => h_gon (by omega) (by omega)) (by rw [h_go5 (by omega)]; omega) n
  rw [if_pos hi] at this; exact this
theorem h_go_S {H : hs_T} {i u w : Nat} (hu : u ≤ Hs H i 5) (hw : w = 6 ∨ w = 7 ∨ w = 8) {k : Nat} (hS : hs_S H k) : hs_S (h_go H i u w) k := by
  obtain ⟨s1, s2, s0, s3, s4, s5, s6⟩ := hS
  have e : ∀ j, j < 5 → Hs (h_go H i u w) k j = Hs H k j := fun j hj => h_gon (by omega) (by omega)
  refine ⟨by rw [e 0 (by omega)]; exact s1, by rw [e 1 (by omega)]; exact s2, by rw [e 0 (by omega), e 1 (by omega)]; exact s0, by rw [e 2 (by omega)]; exact s3, by rw [e 3 (by omega)]; exact s4, by rw [e 4 (by omega)]; exact s5, ?_⟩
  rw [e 2 (by omega)]
  by_cases q : k = i
  · subst q
    rw [h_go5 (by omega)]
    rcases hw with rfl | rfl | rfl
    · rw [h_gow, h_gon (j := 7) (by omega) (by omega), h_gon (j := 8) (by omega) (by omega)]; omega
    · rw [h_gow, h_gon (j := 6) (by omega) (by omega), h_gon (j := 8) (by omega) (by omega)]; omega
    · rw [h_gow, h_gon (j := 6) (by omega) (by omega), h_gon (j := 7) (by omega) (by omega)]; omega
  · rw [h_gon (j := 5) (by omega) (by omega), h_gon (j := 6) (by omega) (by omega), h_gon (j := 7) (by omega) (by omega), h_gon (j := 8) (by omega) (by omega)]; exact s6
theorem hs_S5 {H : hs_T} {i : Nat} (h : hs_S H i) : Hs H i 5 ≤ Hs H i 2 := by have := h.2.2.2.2.2.2; omega
theorem hs_W.go {H : hs_T} {i u w : Nat} (hW : hs_W H) (hi : i < Hh H 1) (hu : u ≤ Hs H i 5) (hw : w = 6 ∨ w = 7 ∨ w = 8) : hs_W (h_go H i u w) := by
  obtain ⟨a0, a1, a2, a3, a4, a5, a6, a7, a8, a9⟩ := hW
  have hus := h_go_used (w := w) (hs_S5 (a8 i hi)) hu (by omega) (Hh H 1) hi
  refine ⟨a0, a1, a2, a3, a4, a5, a6, fun k hk => ?_, fun k hk => h_go_S hu hw (a8 k hk), a9⟩
  have := a7 k hk
  show Hd H k 0 ≤ 100000 + hs_used (h_go H i u w) (Hh H 1) ∧ Hd H k 5 ≤ hs_used (h_go H i u w) (Hh H 1)
  rw [hus]; omega
theorem hs_V.go {H : hs_T} {i u w : Nat} (hW : hs_V H) (hu : u ≤ Hs H i 5) (hw : w = 6 ∨ w = 7 ∨ w = 8) : hs_V (h_go H i u w) := by
  obtain ⟨a0, a1, a2, a3, a4, a5, a6, a7, a8, a9⟩ := hW
  exact ⟨a0, a1, a2, a3, a4, a5, a6, trivial, fun k hk => h_go_S hu hw (a8 k hk), a9⟩
theorem hs_used_J {H H' : hs_T} (h : H'.2.2.2.1 = H.2.2.2.1) : ∀ n, hs_used H' n = hs_used H n
  | 0 => rfl
  | n + 1 => by
    show hs_used H' n + (H'.2.2.2.1 n 2 - H'.2.2.2.1 n 5) = hs_used H n + (H.2.2.2.1 n 2 - H.2.2.2.1 n 5)
    rw [hs_used_J h n, h]
/-- money bears on nothing of it -/
theorem hs_W.J {H H' : hs_T} (hW : hs_W H) (h1 : H'.1 = H.1) (h2 : H'.2.1 = H.2.1) (h4 : H'.2.2.2.1 = H.2.2.2.1) (h6 : H'.2.2.2.2.2 = H.2.2.2.2.2) : hs_W H' := by
  obtain ⟨a0, a1, a2, a3, a4, a5, a6, a7, a8, a9⟩ := hW
  unfold hs_W hs_S Hh Hd Hs Hc
  rw [h1, h2, h4, h6, hs_used_J h4]
  exact ⟨a0, a1, a2, a3, a4, a5, a6, a7, a8, a9⟩
theorem hs_W.set {H : hs_T} {i u w : Nat} (hW : hs_W H) (hi : i < Hh H 1) (hu : u ≤ Hs H i 5) (hw : w = 6 ∨ w = 7 ∨ w = 8) : hs_W (h_set H i u w) := (hW.go (w := w) hi hu hw).J rfl rfl rfl rfl
theorem h_can_le {H : hs_T} {i : Nat} : h_can H i ≤ Hs H i 5 ∧ h_can H i ≤ Hd H (Hs H i 0) 0 := by
  unfold h_can
  split <;> omega
theorem hs_W.del {H : hs_T} {i u : Nat} (hW : hs_W H) (hi : i < Hh H 1) (hu : u ≤ Hs H i 5) : hs_W (h_del H i u) := by
  have hus := h_go_used (w := 7) (hs_S5 (hW.2.2.2.2.2.2.2.2.1 i hi)) hu (by omega) (Hh H 1) hi
  have h0 := hW.2.2.2.2.2.2.2.1
  obtain ⟨a0, a1, a2, a3, a4, a5, a6, a7, a8, a9⟩ := hW.set (w := 7) hi hu (by omega)
  refine ⟨a0, a1, a2, a3, a4, a5, a6, fun k hk => ?_, a8, a9⟩
  have hk' : k < Hh H 0 := hk
  have q := h0 k hk'
  show Hd (h_mv (h_set H i u 7) (Hs H i 0) (Hs H i 1) u) k 0 ≤ 100000 + hs_used (h_del H i u) (Hh H 1) ∧ Hd (h_mv (h_set H i u 7) (Hs H i 0) (Hs H i 1) u) k 5 ≤ hs_used (h_del H i u) (Hh H 1)
  rw [hs_used_J (H := h_go H i u 7) (H' := h_del H i u) rfl, hus]
  have e5 : Hd (h_mv (h_set H i u 7) (Hs H i 0) (Hs H i 1) u) k 5 = Hd H k 5 := (hsD_ne (by omega)).trans (hsD_ne (by omega))
  rw [e5]
  refine ⟨?_, by omega⟩
  unfold h_mv
  have e0 : ∀ k, Hd (hsD (h_set H i u 7) (Hs H i 0) 0 (Hd (h_set H i u 7) (Hs H i 0) 0 - u)) k 0 ≤ Hd H k 0 := by
    intro k
    by_cases z : k = Hs H i 0
    · subst z; rw [hsD_at]; exact Nat.sub_le _ _
    · rw [hsD_ne (by omega)]; exact Nat.le_refl _
  by_cases z : k = Hs H i 1
  · subst z
    rw [hsD_at]
    have := e0 (Hs H i 1)
    omega
  · rw [hsD_ne (by omega)]
    have := e0 k
    omega
/-- one pass: the house behind it, and whether something was delivered -/
def dp : List Nat → hs_T → Bool → hs_T × Bool
  | [], H, b => (H, b)
  | s :: l, H, b => if hq H s && decide (0 < h_can H s) then dp l (h_del H s (h_can H s)) true else dp l H b
theorem dp_c {s : Nat} {l : List Nat} {H : hs_T} {b : Bool} : dp (s :: l) H b = if hq H s && decide (0 < h_can H s) then dp l (h_del H s (h_can H s)) true else dp l H b := rfl
/-- an order's entries from a place on -/
theorem drop_at {O l : List Nat} {i s : Nat} (h : O.drop i = s :: l) : i < O.length ∧ O.getD i 0 = s ∧ O.drop (i + 1) = l ∧ s ∈ O := by
  have hi : i < O.length := by
    have := congrArg List.length h
    simp at this; omega
  have e := List.drop_eq_getElem_cons hi
  rw [h] at e
  have e1 := (List.cons.inj e).1
  refine ⟨hi, ?_, (List.cons.inj e).2.symm, ?_⟩
  · rw [List.getD_eq_getElem?_getD, List.getElem?_eq_getElem hi]; exact e1.symm
  · rw [e1]; exact List.getElem_mem hi
theorem drop_end {O : List Nat} {i : Nat} (h : O.drop i = []) (hi : i ≤ O.length) : i = O.length := by
  have := congrArg List.length h
  simp at this; omega
section DR
variable {g : ab_E} {d : Nat} {v : gd_D} {Q : ab_O → gd_D → Prop} {H : hs_T}
theorem r_sellsAsked {x : Nat} (hx : x < 8) (hd : 4 ≤ d) (hR : rm_R (v.2.1 40 0) H) (hW : hs_W H) (h : Q (Sum.inl (some (zI (b2 (h_sells H x))))) v) : gd_C g mX11_sellsAsked d 0 0 [zR 11 0, zI (nI x)] v Q := by
  have h24 := hW.2.1
  have h8 := hW.1
  refine c_X11_sellsAsked (Nat.zero_le _) ?_
  have mono : ∀ k i, hu H (some x) none i ≤ hu H (some x) none (i + k) := by
    intro k
    induction k with
    | zero => intro i; exact Nat.le_refl _
    | succ k ih => intro i; exact Nat.le_trans (ih i) (Nat.le_add_right _ _)
  have key : ∀ k i, i + k = Hh H 1 → hu H (some x) none i = 0 → gd_G g mX11_sellsAsked d 0 0 2 [(0, zR 11 0), (1, zI (nI x)), (2, zI (nI i))] [] v Q := by
    intro k
    induction k with
    | zero =>
      intro i hi h0
      have e : i = Hh H 1 := by omega
      subst e
      refine w_X11_sellsAsked_2 hd (r_sales hR (pk_le (Hh H 1) (Hh H 1) (fun _ => ?_) (fun q => absurd q (Nat.lt_irrefl _))))
      unfold h_sells at h
      rw [h0] at h
      exact h
    | succ k ih =>
      intro i hi h0
      have hlt : i < Hh H 1 := by omega
      obtain ⟨s1, s2, s0, s3, s4, s5, s6⟩ := hW.2.2.2.2.2.2.2.2.1 i hlt
      refine w_X11_sellsAsked_2 hd (r_sales hR (pk_le (Hh H 1) i (fun q => absurd q (by omega)) (fun _ => r_isAsked (Nat.le_refl 3) hR hW hlt ⟨fun hc => ?_, fun hc => r_of (w := 0) hR hW hlt (by decide) ?_⟩)))
      · rw [nu_1]
        refine ih (i + 1) (by omega) ?_
        show hu H (some x) none i + _ = 0
        rw [b2_0 hc, h0]; rfl
      · show (¬ nI (Hs H i 0) = nI x → _) ∧ (nI (Hs H i 0) = nI x → _)
        rw [nI_eq (by omega) (by omega)]
        refine ⟨fun hn => ?_, fun he => ?_⟩
        · rw [nu_1]
          refine ih (i + 1) (by omega) ?_
          show hu H (some x) none i + _ = 0
          rw [b2_1 hc, h0, show hm (some x) (Hs H i 0) = false from decide_eq_false hn]; rfl
        · have e1 : 0 < hu H (some x) none (i + 1) := by
            show 0 < hu H (some x) none i + _
            rw [b2_1 hc, show hm (some x) (Hs H i 0) = true from decide_eq_true he]
            have hq5 := b2_1 hc
            have : 0 < Hs H i 5 := by
              unfold hq at hq5
              have z := Bool.and_eq_true_iff.mp hq5
              exact of_decide_eq_true z.2
            show 0 < hu H (some x) none i + Hs H i 5
            omega
          have e2 := mono k (i + 1)
          rw [show i + 1 + k = Hh H 1 from by omega] at e2
          unfold h_sells at h
          rw [decide_eq_true (by omega)] at h
          exact h
  exact key (Hh H 1) 0 (by omega) rfl
theorem r_delivers {O : List Nat} (hd : 4 ≤ d) (hR : rm_R (v.2.1 40 0) H) (hW : hs_W H) (hO : rm_O v O) (hOl : O.length = Hh H 1) (hOm : ∀ s ∈ O, s < Hh H 1) (h : ∀ v', fr (fx [40]) v v' → rm_R (v'.2.1 40 0) (dp O H false).1 → Q (Sum.inl (some (zI (b2 (dp O H false).2)))) v') : gd_C g mX11_delivers d 0 0 [zR 11 0] v Q := by
  have h24 := hW.2.1
  refine c_X11_delivers (Nat.zero_le _) ?_
  have key : ∀ (l : List Nat) (i : Nat) (b : Bool) (K : hs_T) (u : gd_D), O.drop i = l → i ≤ O.length → Hh K = Hh H → hs_W K → fr (fx [40]) v u → rm_R (u.2.1 40 0) K → dp l K b = dp O H false → gd_G g mX11_delivers d 0 0 4 [(0, zR 11 0), (1, zI (b2 b)), (2, zI (nI i))] [] u Q := by
    intro l
    induction l with
    | nil =>
      intro i b K u hl hi hH hKW hf hK he
      have ei := drop_end hl hi
      refine w_X11_delivers_4 hd (r_sales hK (pk_le (Hh K 1) i (fun _ => ⟨b2_n b, ?_⟩) (fun q => absurd q (by rw [hH]; omega)) rfl rfl (by rw [hH]; omega) (by omega)))
      have := h u hf
      rw [← he] at this
      exact this hK
    | cons s l ih =>
      intro i b K u hl hi hH hKW hf hK he
      obtain ⟨hi2, hs, hl2, hmem⟩ := drop_at hl
      have hsn : s < Hh H 1 := hOm s hmem
      have hsK : s < Hh K 1 := by rw [hH]; exact hsn
      have eO : u.1 47 0 i = nI s := by rw [hf.I (fun _ => fx_n rfl), hO i hi2, hs]
      obtain ⟨s1, s2, s0, s3, s4, s5, s6⟩ := hKW.2.2.2.2.2.2.2.2.1 s hsK
      have h8 := hKW.1
      have hst := (hKW.2.2.2.2.2.2.2.1 _ s1).1
      have hus := hKW.used
      have hlot := hKW.2.2.2.2.2.1
      refine w_X11_delivers_4 hd (r_sales hK (pk_le (Hh K 1) i (fun q => absurd q (by rw [hH]; omega)) (fun _ => ⟨nu_in (by omega) (by omega), ?_⟩) rfl rfl (by rw [hH]; omega) (by omega)))
      rw [nI_clamp (by omega), eO]
      rw [dp_c] at he
      refine r_isAsked (Nat.le_refl 3) hK hKW hsK ⟨fun hc => ?_, fun hc => ?_⟩
      · have hq1 := b2_1 hc
        rw [hq1, Bool.true_and] at he
        refine r_of (w := 0) hK hKW hsK (by decide) ?_
        have e9 : ((9 : Int32) + 6 * nI (Hs K s 0) + 0) = nI (9 + 6 * Hs K s 0 + 0) := nu_d _ 0
        have fin : ∀ y : Int64, y = lN (h_can K s) → wp_X11_delivers_90 g d (b2 b) (nI i) (nI s) (9 + 6 * nI (Hs K s 0)) y u Q := by
          rintro _ rfl
          have hcl := h_can_le (H := K) (i := s)
          unfold wp_X11_delivers_90
          rw [lN_i, e9, nu_l (by omega)]
          refine ⟨fun hn => ?_, fun hn => ?_⟩
          · have hpos : 0 < h_can K s := by
              rcases Nat.eq_zero_or_pos (h_can K s) with z | z
              · rw [z] at hn; exact absurd rfl hn
              · exact z
            rw [decide_eq_true hpos, if_pos rfl] at he
            refine r_settles (Nat.le_refl 3) hK hKW hsK hcl.1 (Or.inr rfl) (fun v1 f1 R1 => ?_)
            rw [nI_clamp (by omega)]
            refine ⟨nu_in (by omega) (by omega), ?_⟩
            rintro _ rfl
            have r0 : v1.2.1 40 0 (9 + 6 * Hs K s 0 + 0) = lN (Hd K (Hs K s 0) 0) := (R1.2.2.2.1 _ s1).1
            rw [r0, lN_sub hcl.2]
            have R2 := rm_sD (j := 0) (x := Hd K (Hs K s 0) 0 - h_can K s) R1 h8 s1 (Or.inl rfl)
            refine ⟨nu_in (by omega) (by omega), ?_⟩
            rintro _ rfl
            rw [← sJ_row] at R2
            refine r_of0 (w := 1) (by omega) (by decide) (R2.2.2.2.2.1 s hsK 1 (by omega)) ?_
            have q1 : Hs (hsD (h_set K s (h_can K s) 7) (Hs K s 0) 0 (Hd K (Hs K s 0) 0 - h_can K s)) s 1 = Hs K s 1 := h_gon (by omega) (by omega)
            rw [q1]
            show vp_in ((9 : Int32) + 6 * nI (Hs K s 1) + 0) 773 ∧ _
            rw [show ((9 : Int32) + 6 * nI (Hs K s 1) + 0) = nI (9 + 6 * Hs K s 1 + 0) from nu_d _ 0, nI_clamp (by omega)]
            refine ⟨nu_in (by omega) (by omega), ?_⟩
            rintro _ rfl
            refine ⟨nu_in (by omega) (by omega), ?_⟩
            rintro _ rfl
            have r1 := (R2.2.2.2.1 _ s2).1
            rw [r1, lN_add]
            have R3 := rm_sD (i := Hs K s 1) (j := 0) (x := Hd (hsD (h_set K s (h_can K s) 7) (Hs K s 0) 0 (Hd K (Hs K s 0) 0 - h_can K s)) (Hs K s 1) 0 + h_can K s) R2 h8 s2 (Or.inl rfl)
            rw [← sJ_row] at R3
            rw [nu_1]
            exact ih (i + 1) true (h_del K s (h_can K s)) _ hl2 (by omega) hH (hKW.del hsK hcl.1) (((hf.tr f1).tr (fr.sJ (fx_y rfl))).tr (fr.sJ (fx_y rfl))) R3 he
          · have hz : h_can K s = 0 := (nI_eq (b := 0) (by omega) (by omega)).mp hn
            rw [hz, decide_eq_false (Nat.lt_irrefl 0), if_neg Bool.false_ne_true] at he
            rw [nu_1]
            exact ih (i + 1) b K u hl2 (by omega) hH hKW hf hK he
        show vp_in ((9 : Int32) + 6 * nI (Hs K s 0) + 0) 773 ∧ _
        rw [e9, nI_clamp (by omega)]
        refine ⟨nu_in (by omega) (by omega), ?_⟩
        rintro _ rfl
        rw [(hK.2.2.2.1 _ s1).1]
        refine r_of (w := 5) hK hKW hsK (by decide) ?_
        rw [gd_rI_at, nu_l (by omega)]
        refine ⟨fun hlt => ?_, fun hlt => ?_⟩
        · rw [lN_lt (by omega) (by omega)] at hlt
          rw [show ((5 : Int32)).toNatClampNeg = 5 from by decide, hK.1 5 (by omega)]
          refine ⟨nu_in (n := 5) (by decide) (by decide), fun e => ?_, ?_⟩
          · have := (lN_eq (b := 0) (by omega) (by omega)).mp e
            omega
          · rintro _ rfl
            refine fin _ ?_
            rw [pk_lRem (by omega) (by omega) (by omega), lN_sub (Nat.mod_le _ _)]
            unfold h_can
            rw [if_neg (by omega)]
        · rw [lN_lt (by omega) (by omega)] at hlt
          refine r_of (w := 5) hK hKW hsK (by decide) ?_
          rw [gd_rI_at, nu_l (by omega)]
          refine fin _ ?_
          unfold h_can
          rw [if_pos (by omega)]
      · rw [b2_0 hc, Bool.false_and, if_neg Bool.false_ne_true] at he
        rw [nu_1]
        exact ih (i + 1) b K u hl2 (by omega) hH hKW hf hK he
  exact key O 0 false H v rfl (Nat.zero_le _) rfl hW fr.rf hR rfl
end DR
