/-! THE CALLS: most, the reference's side -/
theorem fNe_V {v v' : gd_D} (h : fr fNe v v') : fr fV v v' := h.wk (fun k i j q => by
  rcases q with q | q
  · refine Or.inl ?_
    simp only [List.mem_cons, List.not_mem_nil, or_false]
    omega
  · exact Or.inr ⟨q.1, by omega, by omega, by omega⟩)
theorem fx_60 {v v' : gd_D} (h : fr (fx [60]) v v') : fr fNe v v' := h.wk (fun k i j q => Or.inl (by
  have q : k ∈ [60] := q
  simp only [List.mem_cons, List.not_mem_nil, or_false] at q
  omega))
section RU
variable {g : ab_E} {d : Nat} {v : gd_D} {Q : ab_O → gd_D → Prop} {S : gs_T}
theorem gr_net {v' : gd_D} (hG : gr_R v S) (hf : fr fNe v v') : gr_R v' S ∧ fre v v' ∧ v'.1 11 0 0 = v.1 11 0 0 := by
  refine ⟨gr_house hG (fNe_V hf) (hG.1.net hf) ?_, fV_re (fNe_V hf), (hf.1 11 0 0 (fun q => by rcases q with q | q <;> omega)).1⟩
  rw [hf.I (fun j q => by rcases q with q | q <;> omega)]
  exact hG.2.2.2.2.2.2
theorem rr_most {x : Int32} (hd : 5 ≤ d) (hG : gr_R v S) (hS : gs_ok S) (h1 : ∀ bb, x = b2 bb → ∀ v' y, fre v v' → v'.1 11 0 0 = 0 → gr_R v' S → mo_val S.1 bb y → Q (Sum.inl (some (zJ y))) v') (h0 : ¬ (x = 0 ∨ x = 1) → ∀ v', fre v v' → v'.1 11 0 0 = 1 → gr_R v' (gs_no S 1) → Q (Sum.inl (some (zJ 0))) v') : gd_C g mX11_most d 0 0 [zR 11 0, zI x] v Q := by
  obtain ⟨b1, b2', b3⟩ := gr_begin hG
  have hW := hS.1
  have h8 := hW.1
  have h24 := hW.2.1
  have main : ∀ bb, x = b2 bb → wp_X11_most_34 g d (b2 bb) (gd_sI v 11 0 0 0) Q := by
    intro bb ex
    have hK := mo_L.ok bb hW
    have sum : ∀ u f D, fr fNe (gd_sI v 11 0 0 0) u → nr_R u (mo_L S.1 bb) (Hh S.1 1) (Hh S.1 1 + 2 * Hh S.1 0) f → ne_Fl (mo_L S.1 bb) (Hh S.1 0) (Hh S.1 1) f → (∀ w, D w < 1) → (∀ a, a < 2 * (Hh S.1 1 + 2 * Hh S.1 0) → bf_sat (ne_N (mo_L S.1 bb) (Hh S.1 1) f) 1 D a) → gd_G g mX11_most d 0 0 65 [(0, zR 11 0), (2, zJ 0), (4, zI 0)] [] u Q := by
      intro u f D hf hN hF hD hs
      have hO := ne_best hK hF hD hs
      obtain ⟨g1, g2, g3⟩ := gr_net b1 hf
      have pr : ∀ i, i < Hh S.1 1 → 0 ≤ lG (mo_L S.1 bb) i * f i ∧ lG (mo_L S.1 bb) i * f i ≤ 10000000 := fun i hi => by
        obtain ⟨k1, k2, k3, k4, k5, k6, k7⟩ := hK.2.2.1 i hi
        obtain ⟨x1, x2⟩ := hO.1.1 i hi
        have m1 := Int.mul_le_mul_of_nonneg_right k7 x1
        exact ⟨Int.mul_nonneg k6 x1, by omega⟩
      have loop : ∀ k i y, i + k = Hh S.1 1 → y.toInt = sm (fun i => lG (mo_L S.1 bb) i * f i) i → gd_G g mX11_most d 0 0 65 [(0, zR 11 0), (2, zJ y), (4, zI (nI i))] [] u Q := by
        intro k
        induction k with
        | zero =>
          intro i y hi hy
          have e : i = Hh S.1 1 := by omega
          subst e
          exact w_X11_most_65 (by omega) (r_sales g1.1 (pk_le (Hh S.1 1) (Hh S.1 1) (fun _ => h1 bb ex u y (b2'.tr g2) (g3.trans b3) g1 ⟨f, _, hO, hy⟩) (fun q => absurd q (Nat.lt_irrefl _)) rfl rfl (by omega) (by omega)))
        | succ k ih =>
          intro i y hi hy
          have hlt : i < Hh S.1 1 := by omega
          refine w_X11_most_65 (by omega) (r_sales g1.1 (pk_le (Hh S.1 1) i (fun q => absurd q (by omega)) (fun _ => ⟨nu_in (by omega) (by omega), nu_in (by omega) (by omega), ?_⟩) rfl rfl (by omega) (by omega)))
          rw [nI_clamp (n := i) (by omega), nu_1]
          rintro _ rfl
          obtain ⟨n1, n2, n3, n4, n5⟩ := hN.2 i (by omega)
          have eG : ne_G (mo_L S.1 bb) (Hh S.1 1) i = lG (mo_L S.1 bb) i := if_pos hlt
          rw [eG] at n5
          obtain ⟨s1, s2⟩ := sm_bd (f := fun i => lG (mo_L S.1 bb) i * f i) i (fun j hj => pr j (by omega))
          have pi := pr i hlt
          have em := jw_mul n4 n5 (by rw [Int.mul_comm]; omega) (by rw [Int.mul_comm]; omega)
          rw [Int.mul_comm] at em
          have ja := jw_add hy em (by omega) (by omega)
          exact ih (i + 1) _ (by omega) ja
      exact loop (Hh S.1 1) 0 0 (by omega) rfl
    have again : ∀ (k : Nat) u f, 400000000 - lp_V (ne_L (mo_L S.1 bb) (Hh S.1 1)) (Hh S.1 1 + 2 * Hh S.1 0) f < (k : Int) → fr fNe (gd_sI v 11 0 0 0) u → nr_R u (mo_L S.1 bb) (Hh S.1 1) (Hh S.1 1 + 2 * Hh S.1 0) f → ne_Fl (mo_L S.1 bb) (Hh S.1 0) (Hh S.1 1) f → gd_C g mX11_gaining 3 0 0 [zR 11 0] u (gd_rI (fun (r4 : Int32) v3 => gd_G g mX11_most d 0 0 42 [(0, zR 11 0), (2, zI r4)] [] v3 Q) (fun E v9 => Q (Sum.inr E) v9)) := by
      intro k
      induction k with
      | zero =>
        intro u f hk hf hN hF
        have := (ne_V_bd hK hF).2
        omega
      | succ k ih =>
        intro u f hk hf hN hF
        refine r_gaining (Nat.le_refl 3) hK hF hN (fun v' D f' hD hs => ?_) (fun v' D P t z a l f' hz hv hP hr hn => ?_)
        · rw [gd_rI_at]
          exact w_X11_most_42 (by omega) ⟨fun _ => sum v' f D (hf.tr (fx_58 f')) (hN.via f') hF hD hs, fun q => absurd rfl q⟩
        · rw [gd_rI_at]
          refine w_X11_most_42 (by omega) ⟨fun q => absurd q (nu_m1 (by omega)), fun _ => ?_⟩
          refine r_goesRound (Nat.le_refl 3) hK hF (hN.via f') hz hv hP hr hn (fun v2 u' f2 hu hur N2 => ?_)
          rw [gd_rV_at]
          obtain ⟨F2, V2⟩ := ne_round hK hF hP hr hn hu hur
          exact ih v2 _ (by omega) ((hf.tr (fx_58 f')).tr (fx_60 f2)) N2 F2
    unfold wp_X11_most_34
    refine r_laysNet (b := bb) (Nat.le_refl 4) b1.1 hW (fun v1 f1 N1 => ?_)
    rw [gd_rV_at]
    have V0 : lp_V (ne_L (mo_L S.1 bb) (Hh S.1 1)) (Hh S.1 1 + 2 * Hh S.1 0) (fun _ => 0) = 0 := by
      exact (sm_eq (h := fun _ => 0) _ (fun i _ => Int.mul_zero _)).trans (sm_0 _)
    refine again 400000001 v1 (fun _ => 0) (by rw [V0]; omega) f1 N1 ⟨fun e he => ⟨Int.le_refl _, (ne_ok hK he).2.2.2.1⟩, fun w => ?_⟩
    have z0 : sm (lp_h (ne_L (mo_L S.1 bb) (Hh S.1 1)) (fun _ => 0) w) (Hh S.1 1 + 2 * Hh S.1 0) = 0 := (sm_eq (h := fun _ => 0) _ (fun i _ => by unfold lp_h; split <;> split <;> rfl)).trans (sm_0 _)
    show 0 + _ = (0 : Int)
    rw [z0]; rfl
  refine c_X11_most hd ?_
  rintro _ rfl
  refine r_lies ?_
  rw [gd_rI_at]
  refine r_fineIf (k := 1) (by decide) (by decide) b3 (fun hp => ?_) (fun hp => ?_)
  · have hp' := (nu_lies (x := x) (a := 0) (b := 1) (by omega) (by omega)).mp hp
    obtain ⟨n, -, n2, e⟩ := nu_rng (a := 0) (b := 1) (by omega) (by omega) hp'.1 hp'.2
    rw [gd_rI_at]
    refine ⟨fun _ => ?_, fun z => absurd z (by decide)⟩
    have hn : n = 0 ∨ n = 1 := by omega
    rcases hn with rfl | rfl
    · exact ⟨fun _ => main false e, fun q => absurd (e.symm.trans q) (by decide)⟩
    · exact ⟨fun q => absurd e q, fun _ => main true e⟩
  · rw [gd_rI_at]
    obtain ⟨c1, c2, c3⟩ := gr_no (c := 1) (k := 1) (by decide) b1
    refine ⟨fun z => absurd rfl z, fun _ => h0 (fun q => hp ?_) _ (b2'.tr c2) c3 c1⟩
    rcases q with rfl | rfl <;> decide
end RU
