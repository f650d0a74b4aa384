/-! PARTS, FAULTS AND LINKS AS ASKED, the reference's side -/
def fP : List Nat := [46, 47, 48, 51, 52, 53, 54]
theorem fx_sub {l m : List Nat} (h : l.all (fun p => decide (p ∈ m)) = true) : ∀ k i j, fx l k i j → fx m k i j := fun k i j q => by
  have q2 : k ∈ m := of_decide_eq_true (List.all_eq_true.mp h k q)
  exact q2
section AQ
variable {g : ab_E} {d : Nat} {v : gd_D} {Q : ab_O → gd_D → Prop} {H : hs_T}
/-- order and parts are laid -/
theorem r_laid {M : gd_D → Prop} {X : String → gd_D → Prop} (hR : rm_R (v.2.1 40 0) H) (hW : hs_W H) (h : ∀ v', fr (fx fP) v v' → rm_O v' (hs_O H) → rp_S v' (pt_all H (hs_O H)) (Hh H 1) → M v') : gd_C g mX11_orders 5 0 0 [zR 11 0] v (gd_rV (fun v1 => gd_C g mX11_laysParts 4 0 0 [zR 11 0] v1 (gd_rV M X)) X) := by
  have hOk := hs_O_ok H
  refine r_orders (Nat.le_refl 5) hR hW (fun v1 f1 O1 => ?_)
  rw [gd_rV_at]
  have R1 : rm_R (v1.2.1 40 0) H := by rw [f1.J (fun _ => fx_n rfl)]; exact hR
  refine r_laysParts (Nat.le_refl 4) R1 hW O1 hOk.1 (fun x hx => (hOk.2.1 x).mp hx) hOk.2.2 (fun x hx => (hOk.2.1 x).mpr hx) (fun v2 f2 S2 => ?_)
  rw [gd_rV_at]
  exact h v2 ((f1.wk (fx_sub (by decide))).tr (f2.wk (fx_sub (by decide)))) (O1.k f2 rfl) S2
/-- the i-th part -/
theorem r_partAt' {s i : Nat} (hd : 3 ≤ d) (hi : i < 2 ^ 31) (hR : rm_R (v.2.1 40 0) H) (hW : hs_W H) (hO : rm_O v (hs_O H)) (hS : rp_S v (pt_all H (hs_O H)) (Hh H 1)) (hs : s < Hh H 1) (h : Q (Sum.inl (some (zI (oi ((pt_P (pt_all H (hs_O H)) s)[i]?))))) v) : gd_C g mX11_partAt d 0 0 [zR 11 0, zI (nI s), zI (nI i)] v Q := by
  have hOk := hs_O_ok H
  obtain ⟨p1, p2, p3⟩ := pt_all_ok hW.V hOk
  refine r_partAt (U := pt_G (pt_all H (hs_O H)) s) hd hi hR hW.2.1 hO hOk.1 (fun x hx => (hOk.2.1 x).mp hx) hs (fun b hb => ⟨((hS s hs).2 b hb).1, p2 s b⟩) ?_
  rw [← p1 s]; exact h
theorem pt_P_ok (hW : hs_W H) {s : Nat} : (pt_P (pt_all H (hs_O H)) s).length ≤ 24 ∧ ∀ x ∈ pt_P (pt_all H (hs_O H)) s, x < Hh H 1 := by
  have hOk := hs_O_ok H
  obtain ⟨p1, -, -⟩ := pt_all_ok hW.V hOk
  rw [p1 s]
  refine ⟨Nat.le_trans (List.length_filter_le _ _) (by rw [hOk.1]; exact hW.2.1), fun x hx => (hOk.2.1 x).mp (List.mem_filter.mp hx).1⟩
theorem r_partMany {s : Nat} (hd : 6 ≤ d) (hR : rm_R (v.2.1 40 0) H) (hW : hs_W H) (hs : s < Hh H 1) (h : ∀ v', fr (fx fP) v v' → rm_O v' (hs_O H) → rp_S v' (pt_all H (hs_O H)) (Hh H 1) → Q (Sum.inl (some (zI (nI (pt_P (pt_all H (hs_O H)) s).length)))) v') : gd_C g mX11_partMany d 0 0 [zR 11 0, zI (nI s)] v Q := by
  have h24 := hW.2.1
  refine c_X11_partMany (by omega) (r_laid hR hW (fun v2 f2 O2 S2 => ?_))
  have R2 : rm_R (v2.2.1 40 0) H := by rw [f2.J (fun _ => fx_n rfl)]; exact hR
  have hp := pt_P_ok hW (s := s)
  exact r_parts (by omega) hp.1 (fun i Q hi hq => r_partAt' (Nat.le_refl 3) hi R2 hW O2 S2 hs hq) (fun x hx => by have := hp.2 x hx; omega) (h v2 f2 O2 S2)
theorem r_faults {x : Nat} (hd : 6 ≤ d) (hx : x < 8) (hR : rm_R (v.2.1 40 0) H) (hW : hs_W H) (h : ∀ v', fr (fx fP) v v' → Q (Sum.inl (some (zI (nI (pt_f H (pt_all H (hs_O H)) x (Hh H 1)))))) v') : gd_C g mX11_faults d 0 0 [zR 11 0, zI (nI x)] v Q := by
  have h24 := hW.2.1
  have h8 := hW.1
  refine c_X11_faults (by omega) (r_laid hR hW (fun v2 f2 O2 S2 => ?_))
  have R2 : rm_R (v2.2.1 40 0) H := by rw [f2.J (fun _ => fx_n rfl)]; exact hR
  have key : ∀ k i, i + k = Hh H 1 → gd_G g mX11_faults d 0 0 12 [(0, zR 11 0), (1, zI (nI x)), (2, zI (nI (pt_f H (pt_all H (hs_O H)) x i))), (3, zI (nI i))] [] v2 Q := by
    intro k
    induction k with
    | zero =>
      intro i hi
      have e : i = Hh H 1 := by omega
      subst e
      exact w_X11_faults_12 (by omega) (r_sales R2 (pk_le (Hh H 1) (Hh H 1) (fun _ => h v2 f2) (fun q => absurd q (Nat.lt_irrefl _)) rfl rfl (by omega) (by omega)))
    | succ k ih =>
      intro i hi
      have hlt : i < Hh H 1 := by omega
      have s1 := (hW.2.2.2.2.2.2.2.2.1 i hlt).1
      have ih1 := ih (i + 1) (by omega)
      refine w_X11_faults_12 (by omega) (r_sales R2 (pk_le (Hh H 1) i (fun q => absurd q (by omega)) (fun _ => r_of (w := 0) R2 hW hlt (by decide) ?_) rfl rfl (by omega) (by omega)))
      rw [gd_rI_at, nI_eq (by omega) (by omega)]
      refine ⟨fun q => ?_, fun q => ⟨nu_in (by omega) (by omega), ?_⟩⟩
      · show gd_G g mX11_faults d 0 0 12 [(0, zR 11 0), (1, zI (nI x)), (2, zI (nI (pt_f H (pt_all H (hs_O H)) x i) + 0)), (3, zI (nI i + 1))] [] v2 Q
        rw [nu_1, nu_I 0, nI_add]
        have e : pt_f H (pt_all H (hs_O H)) x (i + 1) = pt_f H (pt_all H (hs_O H)) x i + 0 := by
          show pt_f H (pt_all H (hs_O H)) x i + (if Hs H i 0 = x then _ else 0) = _
          rw [if_neg q]
        rw [e] at ih1; exact ih1
      · rw [nI_clamp (by omega), (S2 i hlt).1]
        show gd_G g mX11_faults d 0 0 12 [(0, zR 11 0), (1, zI (nI x)), (2, zI (nI (pt_f H (pt_all H (hs_O H)) x i) + nI ((pt_all H (hs_O H)).2.1 i))), (3, zI (nI i + 1))] [] v2 Q
        rw [nu_1, nI_add]
        have e : pt_f H (pt_all H (hs_O H)) x (i + 1) = pt_f H (pt_all H (hs_O H)) x i + (pt_all H (hs_O H)).2.1 i := by
          show pt_f H (pt_all H (hs_O H)) x i + (if Hs H i 0 = x then _ else 0) = _
          rw [if_pos q]
        rw [e] at ih1; exact ih1
  exact key (Hh H 1) 0 (by omega)
/-- the chain's own loop -/
theorem r_links {s i : Nat} (hd : 4 ≤ d) (hi : i < 2 ^ 31) (hR : rm_R (v.2.1 40 0) H) (hW : hs_W H) (hO : rm_O v (hs_O H)) (hS : rp_S v (pt_all H (hs_O H)) (Hh H 1)) (hs : s < Hh H 1) (hz : ∀ z, z < 24 → v.1 55 0 z = 0) (h1 : ∀ v' a, fr (fx [55]) v v' → lk (pt_P (pt_all H (hs_O H))) i (fun _ => false) s = some a → a < Hh H 1 → gd_G g mX11_chain d 0 0 148 [(0, zR 11 0), (3, zI 1), (4, zI (nI a)), (5, zI 0)] [] v' Q) (h0 : ∀ v' a, fr (fx [55]) v v' → lk (pt_P (pt_all H (hs_O H))) i (fun _ => false) s = none → gd_G g mX11_chain d 0 0 148 [(0, zR 11 0), (3, zI 0), (4, zI a), (5, zI 0)] [] v' Q) : gd_G g mX11_chain d 0 0 77 [(0, zR 11 0), (2, zI (nI i)), (3, zI 1), (4, zI (nI s)), (5, zI 0)] [] v Q := by
  have h24 := hW.2.1
  have key : ∀ (m k a : Nat) (S : Nat → Bool) (u : gd_D), k + m = i → a < Hh H 1 → S a = false → k + lk_n S (Hh H 1) ≤ Hh H 1 → fr (fx [55]) v u → (∀ z, z < 24 → u.1 55 0 z = b2 (S z)) → lk (pt_P (pt_all H (hs_O H))) m S a = lk (pt_P (pt_all H (hs_O H))) i (fun _ => false) s → gd_G g mX11_chain d 0 0 77 [(0, zR 11 0), (2, zI (nI i)), (3, zI 1), (4, zI (nI a)), (5, zI (nI k))] [] u Q := by
    intro m
    induction m with
    | zero =>
      intro k a S u hk ha hSa hc hf hu he
      have e : k = i := by omega
      subst e
      exact w_X11_chain_77 hd (pk_le k k (fun _ => h1 u a hf he.symm ha) (fun q => absurd q (Nat.lt_irrefl _)) rfl rfl (by omega) (by omega))
    | succ m ih =>
      intro k a S u hk ha hSa hc hf hu he
      have up := lk_n_up ha hSa
      rw [lk_c] at he
      have Ru : rm_R (u.2.1 40 0) H := by rw [hf.J (fun _ => fx_n rfl)]; exact hR
      have hf2 : fr (fx [55]) v (gd_sI u 55 0 a 1) := hf.tr (fr.sI (fx_y rfl))
      have O2 : rm_O (gd_sI u 55 0 a 1) (hs_O H) := hO.k hf2 rfl
      have S2 : rp_S (gd_sI u 55 0 a 1) (pt_all H (hs_O H)) (Hh H 1) := fun x hx => by
        rw [hf2.I (k := 53) (fun _ => fx_n rfl), hf2.I (k := 51) (fun _ => fx_n rfl), hf2.I (k := 52) (fun _ => fx_n rfl)]; exact hS x hx
      have u2 : ∀ z, z < 24 → (gd_sI u 55 0 a 1).1 55 0 z = b2 (cl_up S a z) := by
        intro z hz2
        by_cases e : z = a
        · subst e; rw [sI_at, cl_up_at]; rfl
        · rw [sI_ne (by omega), hu z hz2]
          unfold cl_up
          rw [decide_eq_false e, Bool.or_false]
      refine w_X11_chain_77 hd (pk_le i k (fun q => absurd q (by omega)) (fun _ => ⟨fun q => absurd q (by decide), fun _ => ⟨nu_in (by omega) (by omega), ?_⟩⟩) rfl rfl (by omega) (by omega))
      rintro _ rfl
      rw [nI_clamp (by omega), show vp_nar .boolean 1 = 1 from by decide]
      have fin0 : ∀ (r : Int32), lk (pt_P (pt_all H (hs_O H))) i (fun _ => false) s = none → wp_X11_chain_125 g d (nI i) (nI a) (nI k) r 0 (gd_sI u 55 0 a 1) Q := by
        intro r hn
        refine ⟨fun _ => ?_, fun q => absurd rfl q⟩
        rw [nu_1]
        refine w_X11_chain_77 hd ⟨fun _ => h0 _ _ hf2 hn, fun _ => ⟨fun _ => h0 _ _ hf2 hn, fun q => absurd rfl q⟩⟩
      refine r_partAt' (i := 0) (Nat.le_refl 3) (by decide) (show rm_R ((gd_sI u 55 0 a 1).2.1 40 0) H from Ru) hW O2 S2 ha ?_
      have hp := pt_P_ok hW (s := a)
      cases hPa : pt_P (pt_all H (hs_O H)) a with
      | nil =>
        rw [hPa] at he
        exact ⟨fun _ => fin0 _ he.symm, fun q => absurd rfl q⟩
      | cons b l =>
        rw [hPa] at he
        have hb : b < Hh H 1 := hp.2 b (by rw [hPa]; exact List.mem_cons_self)
        have he' : (if cl_up S a b then none else lk (pt_P (pt_all H (hs_O H))) m (cl_up S a) b) = lk (pt_P (pt_all H (hs_O H))) i (fun _ => false) s := he
        refine ⟨fun q => absurd q (nu_m1 (by omega)), fun _ => ⟨nu_in (by omega) (by omega), ?_⟩⟩
        have e55 : (gd_sI u 55 0 a 1).1 55 0 (nI b).toNatClampNeg = b2 (cl_up S a b) := by rw [nI_clamp (by omega), u2 b (by omega)]
        refine ⟨fun q => fin0 _ ?_, fun q => ⟨fun z => absurd z (by decide), fun _ => ?_⟩⟩
        · have q' : ¬ b2 (cl_up S a b) = 0 := by rw [← e55]; exact q
          rw [b2_1 q', if_pos rfl] at he'; exact he'.symm
        · have q' : b2 (cl_up S a b) = 0 := by rw [← e55]; exact q
          have hfb := b2_0 q'
          rw [hfb, if_neg Bool.false_ne_true] at he'
          rw [nu_1]
          exact ih (k + 1) b (cl_up S a) _ (by omega) hb hfb (by omega) hf2 u2 he'
  refine key i 0 s (fun _ => false) v (by omega) hs rfl ?_ fr.rf (fun z hz2 => hz z hz2) rfl
  have := pt_c_le (fun x => if (fun _ => false) x then 0 else 1) (Hh H 1)
  show 0 + pt_c _ (Hh H 1) ≤ Hh H 1
  omega
end AQ
