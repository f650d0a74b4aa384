/-! THE CALLS: foretold, the reference's side -/
section CF3
variable {g : ab_E} {d : Nat} {v : gd_D} {Q : ab_O → gd_D → Prop} {S : gs_T}
theorem rr_foretold {x : Int32} (hd : 43 ≤ d) (hG : gr_R v S) (hS : gs_ok S) (h1 : ∀ n v', 1 ≤ n → n ≤ 30 → x = nI n → fre v v' → v'.1 11 0 0 = 0 → gr_R v' S → Q (Sum.inl (some (zI (nI (gs_fore S.1 n))))) v') (h0 : ¬ (nI 1 ≤ x ∧ x ≤ nI 30) → ∀ v', fre v v' → v'.1 11 0 0 = 1 → gr_R v' (gs_no S 1) → Q (Sum.inl (some (zI 0))) v') : gd_C g mX11_foretold d 0 0 [zR 11 0, zI x] v Q := by
  obtain ⟨b1, b2', b3⟩ := gr_begin hG
  have hday := hS.1.2.2.1
  refine c_X11_foretold (by omega) ?_
  rintro _ rfl
  refine r_lies ?_
  rw [gd_rI_at]
  refine r_fineIf (k := 1) (by decide) (by decide) b3 (fun hp => ?_) (fun hp => ?_)
  · have hp' := (nu_lies (x := x) (a := 1) (b := 30) (by omega) (by omega)).mp hp
    obtain ⟨n, n1, n2, e⟩ := nu_rng (a := 1) (b := 30) (by omega) (by omega) hp'.1 hp'.2
    subst e
    refine ⟨fun z => absurd z (by decide), fun _ => ⟨nu_in (n := 2) (by decide) (by decide), ?_⟩⟩
    rintro _ rfl
    rw [show ((2 : Int32)).toNatClampNeg = 2 from by decide, b1.1.1 2 (by omega), nu_l (by omega), lN_add, nu_J 1, lN_sub (by omega), nu_J 5000, lN_lt (by omega) (by omega)]
    refine ⟨fun hlt => ?_, fun hlt => ?_⟩
    · refine r_putsAside b1.1 hS.1 (fun v2 f2 R2 => ?_)
      rw [gd_rV_at]
      obtain ⟨G2, F2, T2⟩ := gr_tool b1 f2 (by decide)
      have key : ∀ k i (u : gd_D), i + k = n → hs_W (ntn S.1 i) → Hh (ntn S.1 i) 2 = Hh S.1 2 + i → fr fG v2 u → rm_R (u.2.1 40 0) (ntn S.1 i) → (∀ z, z < 24 → u.1 55 0 z = 0) → (1 ≤ i → u.1 11 0 29 = nI (nt_u (ntn S.1 (i - 1)))) → gd_G g mX11_foretold d 0 0 49 [(0, zR 11 0), (1, zI (nI n)), (2, zI (nI i))] [] u Q := by
        intro k
        induction k with
        | zero =>
          intro i u hi hKW hKd hf hK hz hu
          have e : i = n := by omega
          subst e
          have R42 : rm_R (u.2.1 42 0) S.1 := by
            rw [hf.J (fun j q => by
              rcases q with q | q
              · exact absurd q (by decide)
              · omega)]; exact R2
          refine w_X11_foretold_49 (by omega) (pk_le i i (fun _ => r_takesBack R42 hS.1 (fun v3 f3 R3 => ?_)) (fun q => absurd q (Nat.lt_irrefl _)) rfl rfl (by omega) (by omega))
          rw [gd_rV_at]
          have e11 : v3.1 11 0 = u.1 11 0 := f3.I (fun _ => fx_n rfl)
          have t3 : v3.1 11 0 0 = 0 := by
            rw [e11, (hf.1 11 0 0 (fun q => by
              rcases q with q | q
              · exact absurd q (by decide)
              · omega)).1, T2]; exact b3
          have f3' : fr fV v2 v3 := (hf.wk fG_V).tr (f3.wk (fun k i j q => by rw [List.mem_singleton.mp q]; exact Or.inl (by decide)))
          rw [e11, hu n1]
          have := h1 i v3 n1 n2 rfl ((b2'.tr F2).tr (fV_re f3')) t3 (gr_house (H' := S.1) G2 f3' R3 (fun z hz2 => by rw [f3.I (fun _ => fx_n rfl)]; exact hz z hz2))
          unfold gs_fore at this
          rw [if_pos (by omega)] at this
          exact this
        | succ k ih =>
          intro i u hi hKW hKd hf hK hz hu
          refine w_X11_foretold_49 (by omega) (pk_le n i (fun q => absurd q (by omega)) (fun _ => r_goes (Nat.le_refl 42) hK hKW hz (fun v3 f3 R3 z3 p1 p2 p3 => ?_)) rfl rfl (by omega) (by omega))
          rw [gd_rV_at, nu_1]
          have kn := nt_keeps hKW (by omega)
          refine ih (i + 1) v3 (by omega) kn.1 ?_ (hf.tr f3) R3 z3 (fun _ => p2)
          show Hh (nt (ntn S.1 i)) 2 = _
          rw [kn.2.2, hKd]; omega
      exact key n 0 v2 (by omega) hS.1 rfl fr.rf G2.1 G2.2.2.2.2.2.2 (fun q => absurd q (by omega))
    · have := h1 n _ n1 n2 rfl b2' b3 b1
      unfold gs_fore at this
      rw [if_neg (by omega)] at this
      exact this
  · have hp' : ¬ (nI 1 ≤ x ∧ x ≤ nI 30) := fun q => hp ((nu_lies (x := x) (a := 1) (b := 30) (by omega) (by omega)).mpr q)
    obtain ⟨n1, n2, n3⟩ := gr_no (c := 1) (k := 1) (by decide) b1
    exact ⟨fun _ => h0 hp' _ (b2'.tr n2) n3 n1, fun z => absurd rfl z⟩
end CF3
