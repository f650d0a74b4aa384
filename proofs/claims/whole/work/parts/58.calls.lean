/-! THE CALLS: print -/
def pr_d (H : hs_T) : Nat → Int64
  | 0 => 0
  | n + 1 => 31 * (31 * pr_d H n + lN (Hd H n 0)) + Hj H n 1
def pr_s (H : hs_T) : Nat → Int64
  | 0 => pr_d H (Hh H 0)
  | n + 1 => 31 * pr_s H n + lN (Hs H n 5)
section CPR
variable {g : ab_E} {d : Nat} {v : gd_D} {Q : ab_O → gd_D → Prop} {S : gs_T}
theorem k_print (hG : gc_R v S) (hS : gs_ok S) (h : Q (Sum.inl (some (zJ (pr_s S.1 (Hh S.1 1))))) v) : gd_C g mX10_print d 0 0 [zR 10 0] v Q := by
  have h8 := hS.1.1
  have h24 := hS.1.2.1
  have hus := hS.1.used
  refine c_X10_print (Nat.zero_le _) ?_
  have key2 : ∀ k i, i + k = Hh S.1 1 → gd_G g mX10_print d 0 0 62 [(0, zR 10 0), (1, zJ (pr_s S.1 i)), (3, zI (nI i))] [] v Q := by
    intro k
    induction k with
    | zero =>
      intro i hi
      have e : i = Hh S.1 1 := by omega
      subst e
      exact w_X10_print_62 (Nat.zero_le _) (pk_le (Hh S.1 1) (Hh S.1 1) (fun _ => h) (fun q => absurd q (Nat.lt_irrefl _)) (hG.1.1 1 (by omega)) rfl (by omega) (by omega))
    | succ k ih =>
      intro i hi
      have hlt : i < Hh S.1 1 := by omega
      have h5 := hS.1.V.five hlt
      refine w_X10_print_62 (Nat.zero_le _) (pk_le (Hh S.1 1) i (fun q => absurd q (by omega)) (fun _ => ⟨nu_in (by omega) (by omega), ?_⟩) (hG.1.1 1 (by omega)) rfl (by omega) (by omega))
      rintro _ rfl
      rw [nI_clamp (by omega), hG.1.2.2.2.1 i hlt 5 (by omega), nu_l (by omega), nu_1]
      exact ih (i + 1) (by omega)
  have key : ∀ k i, i + k = Hh S.1 0 → gd_G g mX10_print d 0 0 4 [(0, zR 10 0), (1, zJ (pr_d S.1 i)), (3, zI (nI i))] [] v Q := by
    intro k
    induction k with
    | zero =>
      intro i hi
      have e : i = Hh S.1 0 := by omega
      subst e
      exact w_X10_print_4 (Nat.zero_le _) (pk_le (Hh S.1 0) (Hh S.1 0) (fun _ => key2 (Hh S.1 1) 0 (by omega)) (fun q => absurd q (Nat.lt_irrefl _)) (hG.1.1 0 (by omega)) rfl (by omega) (by omega))
    | succ k ih =>
      intro i hi
      have hlt : i < Hh S.1 0 := by omega
      have hst := (hS.1.2.2.2.2.2.2.2.1 i hlt).1
      refine w_X10_print_4 (Nat.zero_le _) (pk_le (Hh S.1 0) i (fun q => absurd q (by omega)) (fun _ => ⟨nu_in (by omega) (by omega), ?_⟩) (hG.1.1 0 (by omega)) rfl (by omega) (by omega))
      rintro _ rfl
      refine ⟨nu_in (by omega) (by omega), ?_⟩
      rintro _ rfl
      rw [nI_clamp (by omega), (hG.1.2.2.1 i hlt).1, (hG.1.2.2.1 i hlt).2.2 1 (by omega) (by omega), nu_l (by omega), nu_1]
      exact ih (i + 1) (by omega)
  exact key (Hh S.1 0) 0 (by omega)
theorem rr_print (hd : 3 ≤ d) (hG : gr_R v S) (hS : gs_ok S) (h : ∀ v', fre v v' → v'.1 11 0 0 = 0 → gr_R v' S → Q (Sum.inl (some (zJ (pr_s S.1 (Hh S.1 1))))) v') : gd_C g mX11_print d 0 0 [zR 11 0] v Q := by
  have h8 := hS.1.1
  have h24 := hS.1.2.1
  obtain ⟨b1, b2', b3⟩ := gr_begin hG
  refine c_X11_print (Nat.zero_le _) ?_
  rintro _ rfl
  have key2 : ∀ k i, i + k = Hh S.1 1 → gd_G g mX11_print d 0 0 67 [(0, zR 11 0), (1, zJ (pr_s S.1 i)), (3, zI (nI i))] [] (gd_sI v 11 0 0 0) Q := by
    intro k
    induction k with
    | zero =>
      intro i hi
      have e : i = Hh S.1 1 := by omega
      subst e
      exact w_X11_print_67 hd (r_sales b1.1 (pk_le (Hh S.1 1) (Hh S.1 1) (fun _ => h _ b2' b3 b1) (fun q => absurd q (Nat.lt_irrefl _)) rfl rfl (by omega) (by omega)))
    | succ k ih =>
      intro i hi
      have hlt : i < Hh S.1 1 := by omega
      have h5 := hS.1.V.five hlt
      refine w_X11_print_67 hd (r_sales b1.1 (pk_le (Hh S.1 1) i (fun q => absurd q (by omega)) (fun _ => r_of (w := 5) b1.1 hS.1 hlt (by decide) ?_) rfl rfl (by omega) (by omega)))
      rw [gd_rI_at, nu_l (by omega), nu_1]
      exact ih (i + 1) (by omega)
  have key : ∀ k i, i + k = Hh S.1 0 → gd_G g mX11_print d 0 0 9 [(0, zR 11 0), (1, zJ (pr_d S.1 i)), (3, zI (nI i))] [] (gd_sI v 11 0 0 0) Q := by
    intro k
    induction k with
    | zero =>
      intro i hi
      have e : i = Hh S.1 0 := by omega
      subst e
      exact w_X11_print_9 hd (r_dealers b1.1 (pk_le (Hh S.1 0) (Hh S.1 0) (fun _ => key2 (Hh S.1 1) 0 (by omega)) (fun q => absurd q (Nat.lt_irrefl _)) rfl rfl (by omega) (by omega)))
    | succ k ih =>
      intro i hi
      have hlt : i < Hh S.1 0 := by omega
      refine w_X11_print_9 hd (r_dealers b1.1 (pk_le (Hh S.1 0) i (fun q => absurd q (by omega)) (fun _ => ?_) rfl rfl (by omega) (by omega)))
      rw [show ((9 : Int32) + 6 * nI i + 0) = nI (9 + 6 * i + 0) from nu_d _ 0, show ((9 : Int32) + 6 * nI i + 1) = nI (9 + 6 * i + 1) from nu_d _ 1, nI_clamp (by omega), nI_clamp (by omega)]
      refine ⟨nu_in (by omega) (by omega), ?_⟩
      rintro _ rfl
      refine ⟨nu_in (by omega) (by omega), ?_⟩
      rintro _ rfl
      rw [(b1.1.2.2.2.1 i hlt).1, (b1.1.2.2.2.1 i hlt).2.2 1 (by omega) (by omega), nu_1]
      exact ih (i + 1) (by omega)
  exact key (Hh S.1 0) 0 (by omega)
end CPR
