/-! RINGS ARE SETTLED, on both sides -/
def rg_set (u : Nat) : List Nat → hs_T → hs_T
  | [], H => H
  | s :: L, H => rg_set u L (h_set H s u 6)
noncomputable def rgs (O : List Nat) : Nat → hs_T → hs_T
  | 0, H => H
  | f + 1, H => match rg_get H O with
    | some R => rgs O f (rg_set (rg_u H R.reverse) R.reverse H)
    | none => H
theorem rgs_some {O R : List Nat} {f : Nat} {H : hs_T} (h : rg_F H O R) : rgs O (f + 1) H = rgs O f (rg_set (rg_u H R.reverse) R.reverse H) := by
  show (match rg_get H O with
    | some R => rgs O f (rg_set (rg_u H R.reverse) R.reverse H)
    | none => H) = _
  rw [rg_get_some h]
theorem rgs_none {O : List Nat} {f : Nat} {H : hs_T} (h : ∀ R, ¬ rg_F H O R) : rgs O f H = H := by
  cases f with
  | zero => rfl
  | succ f =>
    show (match rg_get H O with
      | some R => rgs O f (rg_set (rg_u H R.reverse) R.reverse H)
      | none => H) = _
    rw [rg_get_none h]
theorem h_set_n {H : hs_T} {i u k j : Nat} (h5 : ¬ (k = i ∧ j = 5)) (h6 : ¬ (k = i ∧ j = 6)) : Hs (h_set H i u 6) k j = Hs H k j := h_gon (w := 6) h5 h6
theorem h_set_5 {H : hs_T} {i u : Nat} : Hs (h_set H i u 6) i 5 = Hs H i 5 - u := h_go5 (w := 6) (by omega)
theorem rg_set_W {u : Nat} : ∀ (L : List Nat) (H : hs_T), hs_W H → (∀ s ∈ L, s < Hh H 1) → (∀ s ∈ L, u ≤ Hs H s 5) → L.Nodup → hs_W (rg_set u L H) ∧ Hh (rg_set u L H) = Hh H ∧ (∀ k j, j < 5 → Hs (rg_set u L H) k j = Hs H k j) ∧ (∀ k, ¬ k ∈ L → Hs (rg_set u L H) k 5 = Hs H k 5) ∧ (∀ k ∈ L, Hs (rg_set u L H) k 5 = Hs H k 5 - u)
  | [], H, hW, _, _, _ => ⟨hW, rfl, fun _ _ _ => rfl, fun _ _ => rfl, fun k hk => by cases hk⟩
  | s :: L, H, hW, hL, hu, hn => by
    obtain ⟨h1, h2⟩ := List.nodup_cons.mp hn
    have hs := hL s List.mem_cons_self
    have hus := hu s List.mem_cons_self
    obtain ⟨a1, a2, a3, a4, a5⟩ := rg_set_W (u := u) L (h_set H s u 6) (hW.set hs hus (by omega)) (fun x hx => hL x (List.mem_cons_of_mem s hx)) (fun x hx => by
      have : ¬ x = s := fun e => h1 (by rw [← e]; exact hx)
      rw [h_set_n (by omega) (by omega)]; exact hu x (List.mem_cons_of_mem s hx)) h2
    refine ⟨a1, a2, fun k j hj => (a3 k j hj).trans (h_set_n (by omega) (by omega)), fun k hk => ?_, fun k hk => ?_⟩
    · have hks : ¬ k = s := fun e => hk (by rw [e]; exact List.mem_cons_self)
      exact (a4 k (fun q => hk (List.mem_cons_of_mem s q))).trans (h_set_n (by omega) (by omega))
    · rcases List.mem_cons.mp hk with q | q
      · rw [q]; exact (a4 s h1).trans h_set_5
      · have hks : ¬ k = s := fun e => h1 (by rw [← e]; exact q)
        rw [show Hs (rg_set u (s :: L) H) k 5 = Hs (rg_set u L (h_set H s u 6)) k 5 from rfl, a5 k q, h_set_n (by omega) (by omega)]
theorem rg_p.nod {H : hs_T} : ∀ {R : List Nat}, rg_p H R → R.Nodup
  | [], _ => List.nodup_nil
  | s :: R, h => List.nodup_cons.mpr ⟨fun q => h.2.1 s q rfl, rg_p.nod h.2.2.2⟩
theorem fm_at {H : hs_T} : ∀ (L : List Nat) (a : Nat), L.foldl (fun a x => min a (Hs H x 5)) a = a ∨ ∃ s ∈ L, Hs H s 5 = L.foldl (fun a x => min a (Hs H x 5)) a
  | [], a => Or.inl rfl
  | x :: L, a => by
    rcases fm_at (H := H) L (min a (Hs H x 5)) with q | ⟨s, s1, s2⟩
    · by_cases e : a ≤ Hs H x 5
      · left
        show L.foldl _ (min a (Hs H x 5)) = a
        rw [q]; omega
      · right
        refine ⟨x, List.mem_cons_self, ?_⟩
        show _ = L.foldl _ (min a (Hs H x 5))
        rw [q]; omega
    · exact Or.inr ⟨s, List.mem_cons_of_mem x s1, s2⟩
theorem rg_m_at {H : hs_T} {L : List Nat} (hne : ¬ L = []) : ∃ s ∈ L, Hs H s 5 = rg_m H L := by
  cases L with
  | nil => exact absurd rfl hne
  | cons x L =>
    rcases fm_at (H := H) L (Hs H x 5) with q | ⟨s, s1, s2⟩
    · exact ⟨x, List.mem_cons_self, q.symm⟩
    · exact ⟨s, List.mem_cons_of_mem x s1, s2⟩
/-- how many sales are fit for a ring -/
def rg_k (H : hs_T) (N : Nat) : Nat := pt_c (fun i => if rg_fit H i then 1 else 0) N
theorem fit1 {H : hs_T} {i : Nat} : 0 < (if rg_fit H i then 1 else 0) ↔ rg_fit H i = true := by cases rg_fit H i <;> simp
theorem rg_F_facts {H : hs_T} {O R : List Nat} (hW : hs_W H) (hF : rg_F H O R) : ¬ R.reverse = [] ∧ R.reverse.length ≤ 8 ∧ R.reverse.Nodup ∧ (∀ s ∈ R.reverse, s < Hh H 1 ∧ rg_fit H s = true ∧ rg_u H R.reverse ≤ Hs H s 5) ∧ rg_u H R.reverse ≤ 1000 := by
  have hne : ¬ R.reverse = [] := by
    obtain ⟨a, b, e, _⟩ := hF.2.1
    rw [e, List.reverse_cons]; exact fun q => by simp at q
  have hm : ∀ s ∈ R.reverse, s < Hh H 1 ∧ rg_fit H s = true ∧ rg_u H R.reverse ≤ Hs H s 5 := fun s hs => ⟨(hF.1.mem s (List.mem_reverse.mp hs)).1, (hF.1.mem s (List.mem_reverse.mp hs)).2, rg_u_le hs⟩
  refine ⟨hne, by rw [List.length_reverse]; exact hF.1.len hW.V, List.pairwise_reverse.mpr (List.Pairwise.imp (fun h => Ne.symm h) hF.1.nod), hm, ?_⟩
  obtain ⟨s, s1, s2⟩ := rg_m_at (H := H) hne
  have := hm s s1
  have := hW.V.five (hm s s1).1
  omega
theorem rg_step {H : hs_T} {O R : List Nat} (hW : hs_W H) (hF : rg_F H O R) : hs_W (rg_set (rg_u H R.reverse) R.reverse H) ∧ Hh (rg_set (rg_u H R.reverse) R.reverse H) = Hh H ∧ rg_k (rg_set (rg_u H R.reverse) R.reverse H) (Hh H 1) < rg_k H (Hh H 1) := by
  obtain ⟨hne, -, hnd, hm, -⟩ := rg_F_facts hW hF
  obtain ⟨a1, a2, a3, a4, a5⟩ := rg_set_W (u := rg_u H R.reverse) R.reverse H hW (fun s hs => (hm s hs).1) (fun s hs => (hm s hs).2.2) hnd
  refine ⟨a1, a2, ?_⟩
  have hle : ∀ i, rg_fit (rg_set (rg_u H R.reverse) R.reverse H) i = true → rg_fit H i = true := by
    intro i hi
    have h1 := rg_fit_5 hi
    rw [a3 i 4 (by omega), show ∀ j, Hh (rg_set (rg_u H R.reverse) R.reverse H) j = Hh H j from fun j => by rw [a2], show ∀ j, Hh (rg_set (rg_u H R.reverse) R.reverse H) j = Hh H j from fun j => by rw [a2]] at h1
    unfold rg_fit
    rw [decide_eq_true h1.2, Bool.true_and]
    refine decide_eq_true ?_
    by_cases e : i ∈ R.reverse
    · rw [a5 i e] at h1; omega
    · rw [a4 i e] at h1; exact h1.1
  obtain ⟨s, s1, s2⟩ := rg_m_at (H := H) hne
  refine pc_lt (fun x hx => fit1.mpr (hle x (fit1.mp hx))) (z := s) (fun q => ?_) (fit1.mpr (hm s s1).2.1) _ (hm s s1).1
  have h1 := (rg_fit_5 (fit1.mp q)).1
  rw [a5 s s1, s2, show Hh (rg_set (rg_u H R.reverse) R.reverse H) 5 = Hh H 5 from by rw [a2]] at h1
  have hl := hW.2.2.2.2.2.1
  have hmod := Nat.mod_lt (rg_m H R.reverse) (show 0 < Hh H 5 by omega)
  have hmle := Nat.mod_le (rg_m H R.reverse) (Hh H 5)
  unfold rg_u at h1
  omega
theorem rgs_keeps {O : List Nat} : ∀ (f : Nat) (H : hs_T), hs_W H → hs_W (rgs O f H) ∧ Hh (rgs O f H) = Hh H
  | 0, H, hW => ⟨hW, rfl⟩
  | f + 1, H, hW => by
    by_cases h : ∃ R, rg_F H O R
    · obtain ⟨R, hF⟩ := h
      obtain ⟨b1, b2, -⟩ := rg_step hW hF
      rw [rgs_some hF]
      have := rgs_keeps (O := O) f _ b1
      exact ⟨this.1, this.2.trans b2⟩
    · rw [rgs_none (fun R hR => h ⟨R, hR⟩)]; exact ⟨hW, rfl⟩
section SR
variable {g : ab_E} {d : Nat} {v : gd_D} {Q : ab_O → gd_D → Prop} {H : hs_T} {h : Nat}
def fq (h k i j : Nat) : Prop := fh h k i j ∨ fy [(8, 1), (36, 1), (37, 1)] k i j
theorem k_settleRings {O : List Nat} (hd : 6 ≤ d) (hR : cr_R v h H) (hW : hs_W H) (hO : cr_O v 1 O) (hOk : ord_ok O (Hh H 1)) (hQ : ∀ v', fr (fq h) v v' → cr_R v' h (rgs O 24 H) → Q (Sum.inl none) v') : gd_C g mX4_settleRings d 0 0 [zR 4 0, zR 2 h] v Q := by
  refine c_X4_settleRings (Nat.zero_le _) ?_
  have h24 := hW.2.1
  have key : ∀ (f i : Nat) (K : hs_T) (u : gd_D), i + f = 24 → hs_W K → Hh K = Hh H → fr (fq h) v u → cr_R u h K → rgs O f K = rgs O 24 H → gd_G g mX4_settleRings d 0 0 2 [(0, zR 4 0), (1, zR 2 h), (2, zI (nI i))] [] u Q := by
    intro f
    induction f with
    | zero =>
      intro i K u hi hKW hH hfr hK he
      have ei : i = 24 := by omega
      subst ei
      have he' : K = rgs O 24 H := he
      subst he'
      exact w_X4_settleRings_2 hd (pk_le 24 24 (fun _ => hQ u hfr hK) (fun q => absurd q (by omega)))
    | succ f ih =>
      intro i K u hi hKW hH hfr hK he
      have hOu : cr_O u 1 O := ⟨by rw [hfr.I (fun _ q => by rcases q with q | q; exact fh_n (by decide) (by decide) (by decide) q; exact fy_n rfl q)]; exact hO.1, fun j hj => by rw [hfr.I (fun _ q => by rcases q with q | q; exact fh_n (by decide) (by decide) (by decide) q; exact fy_n rfl q)]; exact hO.2 j hj⟩
      have hOk' : ord_ok O (Hh K 1) := by rw [hH]; exact hOk
      refine w_X4_settleRings_2 hd (pk_le 24 i (fun q => absurd q (by omega)) (fun _ => k_find (Nat.le_refl 5) hK hKW hOu hOk' (fun v1 R f1 hF hm hu => ?_) (fun v1 f1 hno => ?_)))
      · rw [gd_rI_at]
        refine ⟨fun q => absurd q (by decide), fun _ => ?_⟩
        obtain ⟨hne, hl8, hnd, hmem, hu1⟩ := rg_F_facts hKW hF
        obtain ⟨b1, b2, -⟩ := rg_step hKW hF
        rw [rgs_some hF] at he
        have hK1 : cr_R v1 h K := hK.far hKW f1 (fun _ _ => fy_n rfl) (fun _ _ => fy_n rfl) (fun _ _ => fy_n rfl) (fun _ _ => fy_n rfl)
        have inner : ∀ (l : List Nat) (j : Nat) (M : hs_T) (z : gd_D), R.reverse.drop j = l → j ≤ R.reverse.length → hs_W M → Hh M = Hh K → (∀ s ∈ l, rg_u K R.reverse ≤ Hs M s 5) → l.Nodup → fr (fh h) v1 z → cr_R z h M → rg_set (rg_u K R.reverse) l M = rg_set (rg_u K R.reverse) R.reverse K → gd_G g mX4_settleRings d 0 0 25 [(0, zR 4 0), (1, zR 2 h), (2, zI (nI i)), (3, zI (nI j))] [] z Q := by
          intro l
          induction l with
          | nil =>
            intro j M z hl hj hMW hMH hul hln hfz hM hem
            have ej := drop_end hl hj
            have hem' : M = rg_set (rg_u K R.reverse) R.reverse K := hem
            have e8 : z.1 8 1 1 = nI R.reverse.length := by rw [hfz.I (fun _ => fh_n (by decide) (by decide) (by decide))]; exact hm.1
            refine w_X4_settleRings_25 (by omega) (pk_le R.reverse.length j (fun _ => ?_) (fun q => absurd q (by omega)) e8 rfl (by omega) (by omega))
            rw [nu_1]
            refine ih (i + 1) (rg_set (rg_u K R.reverse) R.reverse K) z (by omega) b1 (b2.trans hH) ((hfr.tr (f1.wk (fun k i j q => Or.inr q))).tr (hfz.wk (fun k i j q => Or.inl q))) (by rw [← hem']; exact hM) he
          | cons s l ihl =>
            intro j M z hl hj hMW hMH hul hln hfz hM hem
            obtain ⟨hj2, e0, hl2, hmm⟩ := drop_at hl
            obtain ⟨n1, n2⟩ := List.nodup_cons.mp hln
            have hs : s < Hh M 1 := by rw [hMH]; exact (hmem s hmm).1
            have e8 : z.1 8 1 1 = nI R.reverse.length := by rw [hfz.I (fun _ => fh_n (by decide) (by decide) (by decide))]; exact hm.1
            have e82 : z.1 8 1 2 = nI (rg_u K R.reverse) := by rw [hfz.I (fun _ => fh_n (by decide) (by decide) (by decide))]; exact hu
            have e36 : z.1 36 1 j = nI s := by rw [hfz.I (fun _ => fh_n (by decide) (by decide) (by decide)), hm.2 j hj2, e0]
            refine w_X4_settleRings_25 (by omega) (pk_le R.reverse.length j (fun q => absurd q (by omega)) (fun _ => ⟨nu_in (by omega) (by omega), ?_⟩) e8 rfl (by omega) (by omega))
            rw [nI_clamp (by omega), e36, e82]
            refine k_ring (Nat.le_refl 3) hM hMW hs (hul s List.mem_cons_self) (fun v2 f2 R2 => ?_)
            rw [gd_rV_at, nu_1]
            refine ihl (j + 1) _ v2 hl2 (by omega) (hMW.set hs (hul s List.mem_cons_self) (by omega)) hMH (fun x hx => ?_) n2 (hfz.tr f2) R2 hem
            have : ¬ x = s := fun e => n1 (by rw [← e]; exact hx)
            rw [h_set_n (by omega) (by omega)]; exact hul x (List.mem_cons_of_mem s hx)
        exact inner R.reverse 0 K v1 rfl (Nat.zero_le _) hKW rfl (fun s hs => (hmem s hs).2.2) hnd fr.rf hK1 rfl
      · rw [gd_rI_at]
        refine ⟨fun _ => ?_, fun q => absurd rfl q⟩
        rw [rgs_none hno] at he
        subst he
        exact hQ v1 (hfr.tr (f1.wk (fun k i j q => Or.inr q))) (hK.far hKW f1 (fun _ _ => fy_n rfl) (fun _ _ => fy_n rfl) (fun _ _ => fy_n rfl) (fun _ _ => fy_n rfl))
  exact key 24 0 H v (by omega) hW rfl fr.rf hR rfl
end SR
section SR2
variable {g : ab_E} {d : Nat} {v : gd_D} {Q : ab_O → gd_D → Prop} {H : hs_T}
theorem r_ringUnits {L : List Nat} (hd : 3 ≤ d) (hR : rm_R (v.2.1 40 0) H) (hW : hs_W H) (hn : v.1 11 0 22 = nI L.length) (hm : ∀ j, j < L.length → v.1 49 0 j = nI (L.getD j 0)) (hL8 : L.length ≤ 8) (hLm : ∀ s ∈ L, s < Hh H 1) (hne : ¬ L = []) (h : Q (Sum.inl (some (zI (nI (rg_u H L))))) v) : gd_C g mX11_ringUnits d 0 0 [zR 11 0] v Q := by
  have h24 := hW.2.1
  have hlot := hW.2.2.2.2.2.1
  cases L with
  | nil => exact absurd rfl hne
  | cons s0 L0 =>
    have hs0 := hLm s0 List.mem_cons_self
    have m0 : v.1 49 0 0 = nI s0 := hm 0 (Nat.succ_pos _)
    refine c_X11_ringUnits hd ⟨nu_in (n := 0) (by decide) (by decide), ?_⟩
    rw [show ((0 : Int32)).toNatClampNeg = 0 from by decide, m0]
    refine r_of (w := 5) hR hW hs0 (by decide) ?_
    rw [gd_rI_at]
    have key : ∀ (l : List Nat) (i a : Nat), (s0 :: L0).drop i = l → i ≤ (s0 :: L0).length → a ≤ 1000 → l.foldl (fun a x => min a (Hs H x 5)) a = rg_m H (s0 :: L0) → gd_G g mX11_ringUnits d 0 0 14 [(0, zR 11 0), (1, zI (nI a)), (2, zI (nI i))] [] v Q := by
      intro l
      induction l with
      | nil =>
        intro i a hl hi ha he
        have ei := drop_end hl hi
        refine w_X11_ringUnits_14 hd (pk_le (s0 :: L0).length i (fun _ => ⟨nu_in (n := 5) (by decide) (by decide), ?_⟩) (fun q => absurd q (by omega)) hn rfl (by omega) (by omega))
        rintro _ rfl
        rw [show ((5 : Int32)).toNatClampNeg = 5 from by decide, hR.1 5 (by omega), lN_i]
        refine ⟨nI_ne0 (by omega) (by omega), ?_⟩
        rw [nu_lots (by omega) (by omega) (by omega)]
        have he' : a = rg_m H (s0 :: L0) := he
        rw [he']; exact h
      | cons s l ih =>
        intro i a hl hi ha he
        obtain ⟨hi2, e0, hl2, hmem⟩ := drop_at hl
        have hs := hLm s hmem
        have h5 := hW.V.five hs
        have mi : v.1 49 0 i = nI s := by rw [hm i hi2, e0]
        refine w_X11_ringUnits_14 hd (pk_le (s0 :: L0).length i (fun q => absurd q (by omega)) (fun _ => ⟨nu_in (by omega) (by omega), ?_⟩) hn rfl (by omega) (by omega))
        rw [nI_clamp (by omega), mi]
        refine r_of (w := 5) hR hW hs (by decide) (c_minI ?_)
        rw [nu_min (by omega) (by omega), gd_rI_at, nu_1]
        exact ih (i + 1) (min a (Hs H s 5)) hl2 (by omega) (by omega) he
    exact key L0 1 (Hs H s0 5) rfl (by rw [List.length_cons]; omega) (hW.V.five hs0) rfl
end SR2
