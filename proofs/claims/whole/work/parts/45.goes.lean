/-! THE NIGHT, the reference's side -/
/-- the reference's cells of a night -/
def fG (k _ j : Nat) : Prop := k ∈ [40, 46, 47, 48, 49, 50, 51, 52, 53, 54, 55] ∨ (k = 11 ∧ (j = 22 ∨ j = 28 ∨ j = 29 ∨ j = 30))
theorem fG_x {ks : List Nat} (h : ks.all (fun k => decide (k ∈ [40, 46, 47, 48, 49, 50, 51, 52, 53, 54, 55])) = true) : ∀ k i j, fx ks k i j → fG k i j := fun k i j q => by
  have q2 : k ∈ [40, 46, 47, 48, 49, 50, 51, 52, 53, 54, 55] := of_decide_eq_true (List.all_eq_true.mp h k q)
  exact Or.inl q2
theorem fG_g : ∀ k i j, fg k i j → fG k i j := fun k i j q => by
  rcases q with q | q | q
  · subst q; exact Or.inl (by decide)
  · subst q; exact Or.inl (by decide)
  · exact Or.inr ⟨q.1, Or.inl q.2⟩
section NR
variable {g : ab_E} {d : Nat} {v : gd_D} {Q : ab_O → gd_D → Prop} {H : hs_T}
theorem r_goes (hd : 42 ≤ d) (hR : rm_R (v.2.1 40 0) H) (hW : hs_W H) (hab : ∀ z, z < 24 → v.1 55 0 z = 0) (hQ : ∀ v', fr fG v v' → rm_R (v'.2.1 40 0) (nt H) → (∀ z, z < 24 → v'.1 55 0 z = 0) → v'.1 11 0 28 = nI (nt_f H) → v'.1 11 0 29 = nI (nt_u H) → v'.2.1 11 0 30 = nt_p H → Q (Sum.inl none) v') : gd_C g mX11_goes d 0 0 [zR 11 0] v Q := by
  have hOk := hs_O_ok H
  have h24 := hW.2.1
  have hday := hW.2.2.1
  have hl := hOk.1
  have hOm : ∀ s ∈ hs_O H, s < Hh H 1 := fun s hs => (hOk.2.1 s).mp hs
  -- buy-ins
  have last : ∀ (l : List Nat) (i : Nat) (K : hs_T) (u : gd_D), (hs_O H).drop i = l → i ≤ (hs_O H).length → hs_W K → Hh K = Hh H → fr fG v u → rm_O u (hs_O H) → rm_R (u.2.1 40 0) K → (∀ z, z < 24 → u.1 55 0 z = 0) → u.1 11 0 28 = nI (nt_f H) → u.1 11 0 29 = nI (nt_u H) → u.2.1 11 0 30 = nt_p H → bis (hs_O H) l K = nt4 H → gd_G g mX11_goes d 0 0 231 [(0, zR 11 0), (2, zI (nI i))] [] u Q := by
    intro l
    induction l with
    | nil =>
      intro i K u hl2 hi hKW hH Fu Ou Ru Au p1 p2 p3 he
      have ei := drop_end hl2 hi
      have he' : K = nt4 H := he
      subst he'
      have eN : Hh (nt4 H) 1 = Hh H 1 := by rw [hH]
      refine w_X11_goes_231 hd (r_sales Ru (pk_le (Hh (nt4 H) 1) i (fun _ => ⟨nu_in (n := 2) (by decide) (by decide), nu_in (n := 2) (by decide) (by decide), ?_⟩) (fun q => absurd q (by omega)) rfl rfl (by omega) (by omega)))
      rintro _ rfl
      have d4 : u.2.1 40 0 2 = lN (Hh H 2) := by
        have := Ru.1 2 (by omega)
        rw [hH] at this; exact this
      rw [show ((2 : Int32)).toNatClampNeg = 2 from by decide, d4, lN_1]
      refine hQ _ (Fu.tr (fr.sJ (Or.inl (by decide)))) ?_ Au p1 p2 ?_
      · rw [sJ_row]; exact rm_sH (j := 2) Ru (by omega) (by omega)
      · rw [sJ_ne (by omega)]; exact p3
    | cons s l ih =>
      intro i K u hl2 hi hKW hH Fu Ou Ru Au p1 p2 p3 he
      obtain ⟨hi2, e0, hl3, hmem⟩ := drop_at hl2
      have hs : s < Hh K 1 := by rw [hH]; exact hOm s hmem
      have eN : Hh K 1 = Hh H 1 := by rw [hH]
      have eO : u.1 47 0 i = nI s := by rw [Ou i hi2, e0]
      obtain ⟨s1, s2, s0, s3, s4, s5, s6⟩ := hKW.2.2.2.2.2.2.2.2.1 s hs
      have h8 := hKW.1
      have hdayK := hKW.2.2.1
      have hpat := hKW.2.2.2.2.2.2.1
      rw [bis_c] at he
      have no : bi_c K s = false → gd_G g mX11_goes d 0 0 231 [(0, zR 11 0), (2, zI (nI i + 1))] [] u Q := by
        intro e
        rw [e, if_neg Bool.false_ne_true] at he
        rw [nu_1]
        exact ih (i + 1) K u hl3 (by omega) hKW hH Fu Ou Ru Au p1 p2 p3 he
      refine w_X11_goes_231 hd (r_sales Ru (pk_le (Hh K 1) i (fun q => absurd q (by omega)) (fun _ => ⟨nu_in (by omega) (by omega), ?_⟩) rfl rfl (by omega) (by omega)))
      rw [nI_clamp (by omega), eO]
      refine r_isAsked (Nat.le_refl 3) Ru hKW hs ⟨fun hc => no ?_, fun hc => ⟨nu_in (n := 2) (by decide) (by decide), r_of (w := 4) Ru hKW hs (by decide) ?_⟩⟩
      · unfold bi_c
        rw [b2_0 hc, Bool.false_and]
      · rintro _ rfl
        refine ⟨nu_in (n := 6) (by decide) (by decide), ?_⟩
        rw [show ((2 : Int32)).toNatClampNeg = 2 from by decide, show ((6 : Int32)).toNatClampNeg = 6 from by decide, Ru.1 2 (by omega), Ru.1 6 (by omega), nu_l (by omega), nu_lateJ (by omega) (by omega) (by omega)]
        refine ⟨fun hlt => no ?_, fun hlt => r_of (w := 1) Ru hKW hs (by decide) (r_sellsAsked (by omega) (Nat.le_refl 4) Ru hKW ⟨fun hc2 => no ?_, fun hc2 => r_of (w := 5) Ru hKW hs (by decide) ?_⟩)⟩
        · unfold bi_c
          rw [decide_eq_false (by omega), Bool.false_and, Bool.and_false]
        · unfold bi_c
          rw [b2_1 hc2, Bool.not_true, Bool.and_false, Bool.and_false]
        · have ebi : bi_c K s = true := by
            unfold bi_c
            rw [b2_1 hc, b2_0 hc2, decide_eq_true (by omega)]; rfl
          rw [ebi, if_pos rfl] at he
          have hOK : ord_ok (hs_O H) (Hh K 1) := by rw [hH]; exact hOk
          obtain ⟨b1, b2⟩ := bn_W hKW hOK hs (Nat.le_refl _)
          refine r_buysIn (Nat.le_refl 41) Ru hKW Ou hOK Au hs (Nat.le_refl _) (fun v2 f2 R2 A2 => ?_)
          rw [gd_rV_at, nu_1]
          refine ih (i + 1) _ v2 hl3 (by omega) b1 (b2.trans hH) (Fu.tr (f2.wk (fG_x (by decide)))) (Ou.k f2 rfl) R2 A2 ?_ ?_ ?_ he
          · rw [f2.I (fun _ => fx_n rfl)]; exact p1
          · rw [f2.I (fun _ => fx_n rfl)]; exact p2
          · rw [f2.J (fun _ => fx_n rfl)]; exact p3
  -- penalties
  obtain ⟨q1, q2⟩ := nt2_keeps hW
  have eN2 : Hh (nt2 H) 1 = Hh H 1 := by rw [q2]
  have pens : ∀ k i (u : gd_D), i + k = Hh H 1 → fr fG v u → rm_O u (hs_O H) → rm_R (u.2.1 40 0) (pnl (nt2 H) i) → (∀ z, z < 24 → u.1 55 0 z = 0) → u.1 11 0 28 = nI (hf (nt2 H) i) → u.1 11 0 29 = nI (hu (nt2 H) none none i) → u.2.1 11 0 30 = pnc (nt2 H) i → gd_G g mX11_goes d 0 0 79 [(0, zR 11 0), (2, zI (nI i))] [] u Q := by
    intro k
    induction k with
    | zero =>
      intro i u hi Fu Ou Ru Au p1 p2 p3
      have e : i = Hh H 1 := by omega
      subst e
      have e3 : Hh (pnl (nt2 H) (Hh H 1)) = Hh H := ((pnl_same (nt2 H) (Hh H 1)).1).trans q2
      have e31 : Hh (pnl (nt2 H) (Hh H 1)) 1 = Hh H 1 := by rw [e3]
      refine w_X11_goes_79 (by omega) (r_sales Ru (pk_le (Hh (pnl (nt2 H) (Hh H 1)) 1) (Hh H 1) (fun _ => ?_) (fun q => absurd q (by omega)) rfl rfl (by omega) (by omega)))
      exact last (hs_O H) 0 _ u rfl (Nat.zero_le _) (q1.pn _) e3 Fu Ou Ru Au p1 p2 p3 rfl
    | succ k ih =>
      intro i u hi Fu Ou Ru Au p1 p2 p3
      have e3 : Hh (pnl (nt2 H) i) = Hh H := ((pnl_same (nt2 H) i).1).trans q2
      have e31 : Hh (pnl (nt2 H) i) 1 = Hh H 1 := by rw [e3]
      have hKW := q1.pn i
      have hi1 : i < Hh (pnl (nt2 H) i) 1 := by omega
      obtain ⟨s1, s2, s0, s3, s4, s5, s6⟩ := hKW.2.2.2.2.2.2.2.2.1 i hi1
      have h8 := hKW.1
      have hrate := hKW.2.2.2.2.1
      refine w_X11_goes_79 (by omega) (r_sales Ru (pk_le (Hh (pnl (nt2 H) i) 1) i (fun q => absurd q (by omega)) (fun _ => r_isAsked (Nat.le_refl 3) Ru hKW hi1 ?_) rfl rfl (by omega) (by omega)))
      rw [gd_rI_at, hq_pn]
      refine ⟨fun hc => ?_, fun hc => ?_⟩
      · have eq := b2_1 hc
        rintro _ rfl
        rw [p1, nu_1]
        have R5 : rm_R ((gd_sI u 11 0 28 (nI (hf (nt2 H) i + 1))).2.1 40 0) (pnl (nt2 H) i) := Ru
        refine r_of (w := 5) R5 hKW hi1 (by decide) ?_
        rintro _ rfl
        rw [show (gd_sI u 11 0 28 (nI (hf (nt2 H) i + 1))).1 11 0 29 = nI (hu (nt2 H) none none i) from by rw [sI_ne (by omega)]; exact p2, nI_add]
        have R8 : rm_R ((gd_sI (gd_sI u 11 0 28 (nI (hf (nt2 H) i + 1))) 11 0 29 (nI (hu (nt2 H) none none i + Hs (pnl (nt2 H) i) i 5))).2.1 40 0) (pnl (nt2 H) i) := Ru
        refine r_of (w := 5) R8 hKW hi1 (by decide) (r_of (w := 3) R8 hKW hi1 (by decide) ?_)
        rintro _ rfl
        refine ⟨nu_in (n := 4) (by decide) (by decide), ?_⟩
        rintro _ rfl
        refine ⟨by decide, ?_⟩
        rw [show ((4 : Int32)).toNatClampNeg = 4 from by decide, R8.1 4 (by omega), nu_l (by omega), nu_l (by omega)]
        have epen : lN (Hs (pnl (nt2 H) i) i 5) * lN (Hs (pnl (nt2 H) i) i 3) * lN (Hh (pnl (nt2 H) i) 4) / 100000 = h_pen (nt2 H) i := h_pen_pn i i
        rw [epen]
        rintro _ rfl
        rw [show (gd_sI (gd_sI u 11 0 28 (nI (hf (nt2 H) i + 1))) 11 0 29 (nI (hu (nt2 H) none none i + Hs (pnl (nt2 H) i) i 5))).2.1 11 0 30 = pnc (nt2 H) i from p3]
        generalize hz0 : gd_sJ (gd_sI (gd_sI u 11 0 28 (nI (hf (nt2 H) i + 1))) 11 0 29 (nI (hu (nt2 H) none none i + Hs (pnl (nt2 H) i) i 5))) 11 0 30 (pnc (nt2 H) i + h_pen (nt2 H) i) = z0
        have Rz : rm_R (z0.2.1 40 0) (pnl (nt2 H) i) := by rw [← hz0, sJ_off (by omega)]; exact Ru
        have z28 : z0.1 11 0 28 = nI (hf (nt2 H) (i + 1)) := by
          rw [← hz0]
          show (gd_sI (gd_sI u 11 0 28 (nI (hf (nt2 H) i + 1))) 11 0 29 (nI (hu (nt2 H) none none i + Hs (pnl (nt2 H) i) i 5))).1 11 0 28 = _
          rw [sI_ne (by omega), sI_at]
          show _ = nI (hf (nt2 H) i + if hq (nt2 H) i then 1 else 0)
          rw [eq]; rfl
        have z29 : z0.1 11 0 29 = nI (hu (nt2 H) none none (i + 1)) := by
          rw [← hz0]
          show (gd_sI (gd_sI u 11 0 28 (nI (hf (nt2 H) i + 1))) 11 0 29 (nI (hu (nt2 H) none none i + Hs (pnl (nt2 H) i) i 5))).1 11 0 29 = _
          rw [sI_at, Hs_pn]
          show _ = nI (hu (nt2 H) none none i + if hq (nt2 H) i && (true && true) then Hs (nt2 H) i 5 else 0)
          rw [eq]; rfl
        have z30 : z0.2.1 11 0 30 = pnc (nt2 H) (i + 1) := by
          rw [← hz0, sJ_at]
          show _ = pnc (nt2 H) i + if hq (nt2 H) i then h_pen (nt2 H) i else 0
          rw [eq]; rfl
        have Fz : fr fG v z0 := by
          rw [← hz0]
          exact ((Fu.tr (fr.sI (Or.inr ⟨rfl, Or.inr (Or.inl rfl)⟩))).tr (fr.sI (Or.inr ⟨rfl, Or.inr (Or.inr (Or.inl rfl))⟩))).tr (fr.sJ (Or.inr ⟨rfl, Or.inr (Or.inr (Or.inr rfl))⟩))
        have Oz : rm_O z0 (hs_O H) := fun j hj => by
          rw [← hz0]
          show (gd_sI (gd_sI u 11 0 28 (nI (hf (nt2 H) i + 1))) 11 0 29 (nI (hu (nt2 H) none none i + Hs (pnl (nt2 H) i) i 5))).1 47 0 j = _
          rw [sI_ne (by omega), sI_ne (by omega)]; exact Ou j hj
        have Az : ∀ z, z < 24 → z0.1 55 0 z = 0 := fun z hz => by
          rw [← hz0]
          show (gd_sI (gd_sI u 11 0 28 (nI (hf (nt2 H) i + 1))) 11 0 29 (nI (hu (nt2 H) none none i + Hs (pnl (nt2 H) i) i 5))).1 55 0 z = _
          rw [sI_ne (by omega), sI_ne (by omega)]; exact Au z hz
        refine r_of (w := 0) Rz hKW hi1 (by decide) (r_of (w := 1) Rz hKW hi1 (by decide) ?_)
        refine r_pays Rz h8 s1 s2 (fun v20 f20 R20 => ?_)
        have hiP : i < Hh (h_pay (pnl (nt2 H) i) (Hs (pnl (nt2 H) i) i 0) (Hs (pnl (nt2 H) i) i 1) (h_pen (nt2 H) i)) 1 := hi1
        refine r_of0 (w := 0) (by omega) (by decide) (R20.2.2.2.2.1 i hiP 0 (by omega)) ?_
        rw [show Hs (h_pay (pnl (nt2 H) i) (Hs (pnl (nt2 H) i) i 0) (Hs (pnl (nt2 H) i) i 1) (h_pen (nt2 H) i)) i 0 = Hs (pnl (nt2 H) i) i 0 from rfl]
        show vp_in ((9 : Int32) + 6 * nI (Hs (pnl (nt2 H) i) i 0) + 2) 773 ∧ _
        rw [show ((9 : Int32) + 6 * nI (Hs (pnl (nt2 H) i) i 0) + 2) = nI (9 + 6 * Hs (pnl (nt2 H) i) i 0 + 2) from nu_d _ 2, nI_clamp (by omega)]
        refine ⟨nu_in (by omega) (by omega), ?_⟩
        rintro _ rfl
        refine ⟨nu_in (by omega) (by omega), ?_⟩
        rintro _ rfl
        rw [(R20.2.2.2.1 _ s1).2.2 2 (by omega) (by omega), show Hj (h_pay (pnl (nt2 H) i) (Hs (pnl (nt2 H) i) i 0) (Hs (pnl (nt2 H) i) i 1) (h_pen (nt2 H) i)) (Hs (pnl (nt2 H) i) i 0) 2 = Hj (pnl (nt2 H) i) (Hs (pnl (nt2 H) i) i 0) 2 from (hsJ_ne (by omega)).trans (hsJ_ne (by omega))]
        have R25 := rm_sJ (i := Hs (pnl (nt2 H) i) i 0) (j := 2) (x := Hj (pnl (nt2 H) i) (Hs (pnl (nt2 H) i) i 0) 2 + h_pen (nt2 H) i) R20 h8 s1 (by omega) (by omega)
        rw [← sJ_row] at R25
        refine r_of0 (w := 1) (by omega) (by decide) (R25.2.2.2.2.1 i hiP 1 (by omega)) ?_
        rw [show Hs (hsJ (h_pay (pnl (nt2 H) i) (Hs (pnl (nt2 H) i) i 0) (Hs (pnl (nt2 H) i) i 1) (h_pen (nt2 H) i)) (Hs (pnl (nt2 H) i) i 0) 2 (Hj (pnl (nt2 H) i) (Hs (pnl (nt2 H) i) i 0) 2 + h_pen (nt2 H) i)) i 1 = Hs (pnl (nt2 H) i) i 1 from rfl]
        show vp_in ((9 : Int32) + 6 * nI (Hs (pnl (nt2 H) i) i 1) + 3) 773 ∧ _
        rw [show ((9 : Int32) + 6 * nI (Hs (pnl (nt2 H) i) i 1) + 3) = nI (9 + 6 * Hs (pnl (nt2 H) i) i 1 + 3) from nu_d _ 3]
        have c3 : (nI (9 + 6 * Hs (pnl (nt2 H) i) i 1 + 3)).toNatClampNeg = 9 + 6 * Hs (pnl (nt2 H) i) i 1 + 3 := nI_clamp (by omega)
        refine ⟨nu_in (by omega) (by omega), ?_⟩
        rintro _ rfl
        refine ⟨nu_in (by omega) (by omega), ?_⟩
        rintro _ rfl
        rw [c3, (R25.2.2.2.1 _ s2).2.2 3 (by omega) (by omega), show Hj (hsJ (h_pay (pnl (nt2 H) i) (Hs (pnl (nt2 H) i) i 0) (Hs (pnl (nt2 H) i) i 1) (h_pen (nt2 H) i)) (Hs (pnl (nt2 H) i) i 0) 2 (Hj (pnl (nt2 H) i) (Hs (pnl (nt2 H) i) i 0) 2 + h_pen (nt2 H) i)) (Hs (pnl (nt2 H) i) i 1) 3 = Hj (pnl (nt2 H) i) (Hs (pnl (nt2 H) i) i 1) 3 from (hsJ_ne (by omega)).trans ((hsJ_ne (by omega)).trans (hsJ_ne (by omega)))]
        have R29 := rm_sJ (i := Hs (pnl (nt2 H) i) i 1) (j := 3) (x := Hj (pnl (nt2 H) i) (Hs (pnl (nt2 H) i) i 1) 3 + h_pen (nt2 H) i) R25 h8 s2 (by omega) (by omega)
        rw [← sJ_row] at R29
        rw [nu_1]
        have f20' : ∀ k i, ¬ k = 40 → v20.1 k i = z0.1 k i ∧ v20.2.1 k i = z0.2.1 k i := fun k i hk => ⟨f20.I (fun _ q => hk (List.mem_singleton.mp q)), f20.J (fun _ q => hk (List.mem_singleton.mp q))⟩
        refine ih (i + 1) _ (by omega) (((Fz.tr (f20.wk (fG_x (by decide)))).tr (fr.sJ (Or.inl (by decide)))).tr (fr.sJ (Or.inl (by decide)))) (fun j hj => ?_) ?_ (fun z hz => ?_) ?_ ?_ ?_
        · show v20.1 47 0 j = _
          rw [(f20' 47 0 (by decide)).1]; exact Oz j hj
        · rw [show pnl (nt2 H) (i + 1) = h_ppen (pnl (nt2 H) i) i (h_pen (nt2 H) i) from by show (if hq (nt2 H) i then _ else _) = _; rw [eq]; rfl]
          exact R29
        · show v20.1 55 0 z = 0
          rw [(f20' 55 0 (by decide)).1]; exact Az z hz
        · show v20.1 11 0 28 = _
          rw [(f20' 11 0 (by decide)).1]; exact z28
        · show v20.1 11 0 29 = _
          rw [(f20' 11 0 (by decide)).1]; exact z29
        · rw [sJ_ne (by omega), sJ_ne (by omega), (f20' 11 0 (by decide)).2]; exact z30
      · have eq := b2_0 hc
        rw [nu_1]
        refine ih (i + 1) u (by omega) Fu Ou ?_ Au ?_ ?_ ?_
        · rw [show pnl (nt2 H) (i + 1) = pnl (nt2 H) i from by show (if hq (nt2 H) i then _ else _) = _; rw [eq]; rfl]; exact Ru
        · rw [show hf (nt2 H) (i + 1) = hf (nt2 H) i from by show hf (nt2 H) i + (if hq (nt2 H) i then 1 else 0) = _; rw [eq]; rfl]; exact p1
        · rw [show hu (nt2 H) none none (i + 1) = hu (nt2 H) none none i from by show hu (nt2 H) none none i + (if hq (nt2 H) i && (true && true) then _ else 0) = _; rw [eq]; rfl]; exact p2
        · rw [show pnc (nt2 H) (i + 1) = pnc (nt2 H) i from by show pnc (nt2 H) i + (if hq (nt2 H) i then _ else 0) = _; rw [eq]; simp]; exact p3
  -- delivery
  have dels : ∀ (f : Nat) (K : hs_T) (u : gd_D), h_open K (Hh H 1) < f → hs_W K → Hh K = Hh H → fr fG v u → rm_O u (hs_O H) → rm_R (u.2.1 40 0) K → (∀ z, z < 24 → u.1 55 0 z = 0) → dlv (hs_O H) f K = nt2 H → gd_G g mX11_goes d 0 0 50 [(0, zR 11 0), (1, zI 1)] [] u Q := by
    intro f
    induction f with
    | zero => intro K u h0; exact absurd h0 (Nat.not_lt_zero _)
    | succ f ih =>
      intro K u h0 hKW hH Fu Ou Ru Au he
      refine w_X11_goes_50 (by omega) ⟨fun q => absurd q (by decide), fun _ => ?_⟩
      obtain ⟨k1, k2, k3, k4⟩ := dp_keeps (n := Hh H 1) (hs_O H) K false hKW (by rw [hH]) hOm
      refine r_delivers (Nat.le_refl 4) Ru hKW Ou (by rw [hH]; exact hl) (fun s hs => by rw [hH]; exact hOm s hs) (fun v3 f3 R3 => ?_)
      rw [gd_rI_at]
      have he' : (if (dp (hs_O H) K false).2 then dlv (hs_O H) f (dp (hs_O H) K false).1 else (dp (hs_O H) K false).1) = nt2 H := he
      have F3 := Fu.tr (f3.wk (fG_x (by decide)))
      have O3 := Ou.k f3 rfl
      have A3 : ∀ z, z < 24 → v3.1 55 0 z = 0 := fun z hz => by rw [f3.I (fun _ => fx_n rfl)]; exact Au z hz
      cases hb : (dp (hs_O H) K false).2 with
      | true =>
        rw [hb, if_pos rfl] at he'
        exact ih _ v3 (by have := k4 rfl hb; omega) k2 (k1.trans hH) F3 O3 R3 A3 he'
      | false =>
        rw [hb, if_neg Bool.false_ne_true] at he'
        rw [he'] at R3
        refine w_X11_goes_50 (by omega) ⟨fun _ => ?_, fun q => absurd rfl q⟩
        rintro _ rfl
        rintro _ rfl
        rintro _ rfl
        refine pens (Hh H 1) 0 _ (by omega) (((F3.tr (fr.sI (Or.inr ⟨rfl, Or.inr (Or.inl rfl)⟩))).tr (fr.sI (Or.inr ⟨rfl, Or.inr (Or.inr (Or.inl rfl))⟩))).tr (fr.sJ (Or.inr ⟨rfl, Or.inr (Or.inr (Or.inr rfl))⟩))) (fun j hj => ?_) ?_ (fun z hz => ?_) ?_ ?_ sJ_at
        · show (gd_sI (gd_sI v3 11 0 28 0) 11 0 29 0).1 47 0 j = _
          rw [sI_ne (by omega), sI_ne (by omega)]; exact O3 j hj
        · rw [sJ_off (by omega)]; exact R3
        · show (gd_sI (gd_sI v3 11 0 28 0) 11 0 29 0).1 55 0 z = _
          rw [sI_ne (by omega), sI_ne (by omega)]; exact A3 z hz
        · show (gd_sI (gd_sI v3 11 0 28 0) 11 0 29 0).1 11 0 28 = _
          rw [sI_ne (by omega), sI_at]; rfl
        · show (gd_sI (gd_sI v3 11 0 28 0) 11 0 29 0).1 11 0 29 = _
          rw [sI_at]; rfl
  -- rings
  have rings : ∀ (f : Nat) (K : hs_T) (u : gd_D), rg_k K (Hh H 1) ≤ f → hs_W K → Hh K = Hh H → fr fG v u → rm_O u (hs_O H) → rm_R (u.2.1 40 0) K → (∀ z, z < 24 → u.1 55 0 z = 0) → rgs (hs_O H) f K = rgs (hs_O H) 24 H → gd_G g mX11_goes d 0 0 4 [(0, zR 11 0)] [] u Q := by
    intro f
    induction f with
    | zero =>
      intro K u h0 hKW hH Fu Ou Ru Au he
      have hOK : ord_ok (hs_O H) (Hh K 1) := by rw [hH]; exact hOk
      have eK : Hh K 1 = Hh H 1 := by rw [hH]
      refine w_X11_goes_4 (by omega) (r_finds (Nat.le_refl 6) Ru hKW Ou hOK (fun v1 R f1 hF hn hm => ?_) (fun v1 f1 hno => ?_))
      · have := (rg_step hKW hF).2.2
        rw [eK] at this; omega
      · rw [gd_rI_at]
        refine ⟨fun _ => ?_, fun q => absurd rfl q⟩
        have R1 : rm_R (v1.2.1 40 0) K := by rw [f1.J (fun _ => fg_n (by decide) (by decide) (by decide))]; exact Ru
        have he' : K = rgs (hs_O H) 24 H := he
        refine dels 24001 K v1 (by have := h_open_le hKW (Hh H 1) (by omega); omega) hKW hH (Fu.tr (f1.wk fG_g)) (fun j hj => by rw [f1.I (fun _ => fg_n (by decide) (by decide) (by decide))]; exact Ou j hj) R1 (fun z hz => by rw [f1.I (fun _ => fg_n (by decide) (by decide) (by decide))]; exact Au z hz) (by rw [he']; rfl)
    | succ f ih =>
      intro K u h0 hKW hH Fu Ou Ru Au he
      have hOK : ord_ok (hs_O H) (Hh K 1) := by rw [hH]; exact hOk
      have eK : Hh K 1 = Hh H 1 := by rw [hH]
      refine w_X11_goes_4 (by omega) (r_finds (Nat.le_refl 6) Ru hKW Ou hOK (fun v1 R f1 hF hn hm => ?_) (fun v1 f1 hno => ?_))
      · rw [gd_rI_at]
        refine ⟨fun q => absurd q (by decide), fun _ => ?_⟩
        have R1 : rm_R (v1.2.1 40 0) K := by rw [f1.J (fun _ => fg_n (by decide) (by decide) (by decide))]; exact Ru
        obtain ⟨hne, hl8, hnd, hmem, hu1⟩ := rg_F_facts hKW hF
        obtain ⟨b1, b2, b3⟩ := rg_step hKW hF
        rw [eK] at b3
        rw [rgs_some hF] at he
        have hn' : v1.1 11 0 22 = nI R.reverse.length := by rw [List.length_reverse]; exact hn
        have hm' : ∀ j, j < R.reverse.length → v1.1 49 0 j = nI (R.reverse.getD j 0) := fun j hj => hm j (by rw [List.length_reverse] at hj; exact hj)
        refine r_ringUnits (Nat.le_refl 3) R1 hKW hn' hm' hl8 (fun s hs => (hmem s hs).1) hne ?_
        rw [gd_rI_at]
        have inner : ∀ (l : List Nat) (j : Nat) (M : hs_T) (z : gd_D), R.reverse.drop j = l → j ≤ R.reverse.length → hs_W M → Hh M = Hh K → (∀ s ∈ l, rg_u K R.reverse ≤ Hs M s 5) → l.Nodup → fr (fx [40]) v1 z → rm_R (z.2.1 40 0) M → rg_set (rg_u K R.reverse) l M = rg_set (rg_u K R.reverse) R.reverse K → gd_G g mX11_goes d 0 0 18 [(0, zR 11 0), (1, zI (nI (rg_u K R.reverse))), (2, zI (nI j))] [] z Q := by
          intro l
          induction l with
          | nil =>
            intro j M z hlj hj hMW hMH hul hln hfz hM hem
            have ej := drop_end hlj hj
            have hem' : M = rg_set (rg_u K R.reverse) R.reverse K := hem
            have e22 : z.1 11 0 22 = nI R.reverse.length := by rw [hfz.I (fun _ => fx_n rfl)]; exact hn'
            refine w_X11_goes_18 (by omega) (pk_le R.reverse.length j (fun _ => ?_) (fun q => absurd q (by omega)) e22 rfl (by omega) (by omega))
            exact ih _ z (by omega) b1 (b2.trans hH) ((Fu.tr (f1.wk fG_g)).tr (hfz.wk (fG_x (by decide)))) (fun j hj => by rw [hfz.I (fun _ => fx_n rfl), f1.I (fun _ => fg_n (by decide) (by decide) (by decide))]; exact Ou j hj) (by rw [← hem']; exact hM) (fun z2 hz => by rw [hfz.I (fun _ => fx_n rfl), f1.I (fun _ => fg_n (by decide) (by decide) (by decide))]; exact Au z2 hz) he
          | cons s l ihl =>
            intro j M z hlj hj hMW hMH hul hln hfz hM hem
            obtain ⟨hj2, e0, hl2, hmm⟩ := drop_at hlj
            obtain ⟨n1, n2⟩ := List.nodup_cons.mp hln
            have hs : s < Hh M 1 := by rw [hMH]; exact (hmem s hmm).1
            have e22 : z.1 11 0 22 = nI R.reverse.length := by rw [hfz.I (fun _ => fx_n rfl)]; exact hn'
            have e49 : z.1 49 0 j = nI s := by rw [hfz.I (fun _ => fx_n rfl), hm' j hj2, e0]
            refine w_X11_goes_18 (by omega) (pk_le R.reverse.length j (fun q => absurd q (by omega)) (fun _ => ⟨nu_in (by omega) (by omega), ?_⟩) e22 rfl (by omega) (by omega))
            rw [nI_clamp (by omega), e49]
            refine r_settles (w := 6) (Nat.le_refl 3) hM hMW hs (hul s List.mem_cons_self) (Or.inl rfl) (fun v2 f2 R2 => ?_)
            rw [gd_rV_at, nu_1]
            refine ihl (j + 1) _ v2 hl2 (by omega) (hMW.set hs (hul s List.mem_cons_self) (by omega)) hMH (fun x hx => ?_) n2 (hfz.tr f2) R2 hem
            have : ¬ x = s := fun e => n1 (by rw [← e]; exact hx)
            rw [h_set_n (by omega) (by omega)]; exact hul x (List.mem_cons_of_mem s hx)
        exact inner R.reverse 0 K v1 rfl (Nat.zero_le _) hKW rfl (fun s hs => (hmem s hs).2.2) hnd fr.rf R1 rfl
      · rw [gd_rI_at]
        refine ⟨fun _ => ?_, fun q => absurd rfl q⟩
        have R1 : rm_R (v1.2.1 40 0) K := by rw [f1.J (fun _ => fg_n (by decide) (by decide) (by decide))]; exact Ru
        rw [rgs_none hno] at he
        refine dels 24001 K v1 (by have := h_open_le hKW (Hh H 1) (by omega); omega) hKW hH (Fu.tr (f1.wk fG_g)) (fun j hj => by rw [f1.I (fun _ => fg_n (by decide) (by decide) (by decide))]; exact Ou j hj) R1 (fun z hz => by rw [f1.I (fun _ => fg_n (by decide) (by decide) (by decide))]; exact Au z hz) (by rw [he]; rfl)
  refine c_X11_goes (by omega) (r_orders (Nat.le_refl 5) hR hW (fun v1 f1 O1 => ?_))
  rw [gd_rV_at]
  refine rings 24 H v1 (by have := pt_c_le (fun i => if rg_fit H i then 1 else 0) (Hh H 1); unfold rg_k; omega) hW rfl (f1.wk (fG_x (by decide))) O1 (by rw [f1.J (fun _ => fx_n rfl)]; exact hR) (fun z hz => by rw [f1.I (fun _ => fx_n rfl)]; exact hab z hz) rfl
end NR
