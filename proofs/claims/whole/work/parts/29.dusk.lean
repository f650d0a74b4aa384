/-! DELIVERY AND PENALTIES, on both sides -/
section DC
variable {g : ab_E} {d : Nat} {v : gd_D} {Q : ab_O → gd_D → Prop} {H : hs_T} {h : Nat}
theorem cr_O.kh {v' : gd_D} {o : Nat} {O : List Nat} (hO : cr_O v o O) (hf : fr (fh h) v v') : cr_O v' o O := ⟨by rw [hf.I (fun _ => fh_n (by decide) (by decide) (by decide))]; exact hO.1, fun j hj => by rw [hf.I (fun _ => fh_n (by decide) (by decide) (by decide))]; exact hO.2 j hj⟩
theorem k_deliverAll {O : List Nat} (hd : 4 ≤ d) (hR : cr_R v h H) (hW : hs_W H) (hO : cr_O v 1 O) (hOl : O.length = Hh H 1) (hOm : ∀ s ∈ O, s < Hh H 1) (hQ : ∀ v', fr (fh h) v v' → cr_R v' h (dp O H false).1 → Q (Sum.inl (some (zI (b2 (dp O H false).2)))) v') : gd_C g mX4_deliverAll d 0 0 [zR 4 0, zR 2 h] v Q := by
  have h24 := hW.2.1
  refine c_X4_deliverAll (Nat.zero_le _) ?_
  have key : ∀ (l : List Nat) (i : Nat) (b : Bool) (K : hs_T) (u : gd_D), O.drop i = l → i ≤ O.length → Hh K = Hh H → hs_W K → fr (fh h) v u → cr_R u h K → dp l K b = dp O H false → gd_G g mX4_deliverAll d 0 0 4 [(0, zR 4 0), (1, zR 2 h), (2, zI (b2 b)), (3, zI (nI i))] [] u Q := by
    intro l
    induction l with
    | nil =>
      intro i b K u hl hi hH hKW hf hK he
      have ei := drop_end hl hi
      refine w_X4_deliverAll_4 hd (pk_le O.length i (fun _ => ⟨b2_n b, ?_⟩) (fun q => absurd q (by omega)) (hO.kh hf).1 rfl (by omega) (by omega))
      have := hQ u hf
      rw [← he] at this
      exact this hK
    | cons s l ih =>
      intro i b K u hl hi hH hKW hf hK he
      obtain ⟨hi2, hs, hl2, hmem⟩ := drop_at hl
      have hsn : s < Hh H 1 := hOm s hmem
      have hsK : s < Hh K 1 := by rw [hH]; exact hsn
      have eO : u.1 21 1 i = nI s := by rw [(hO.kh hf).2 i hi2, hs]
      obtain ⟨s1, s2, s0, s3, s4, s5, s6⟩ := hKW.2.2.2.2.2.2.2.2.1 s hsK
      rw [dp_c] at he
      have no : (hq K s && decide (0 < h_can K s)) = false → gd_G g mX4_deliverAll d 0 0 4 [(0, zR 4 0), (1, zR 2 h), (2, zI (b2 b)), (3, zI (nI i + 1))] [] u Q := by
        intro e
        rw [e, if_neg Bool.false_ne_true] at he
        rw [nu_1]
        exact ih (i + 1) b K u hl2 (by omega) hH hKW hf hK he
      refine w_X4_deliverAll_4 hd (pk_le O.length i (fun q => absurd q (by omega)) (fun _ => ⟨nu_in (by omega) (by omega), ?_⟩) (hO.kh hf).1 rfl (by omega) (by omega))
      rw [nI_clamp (by omega), eO]
      refine k_isAsked hK hKW hsK ⟨fun hc => ?_, fun hc => k_deliverable (Nat.le_refl 3) hK hKW hsK ?_⟩
      · refine ⟨fun _ => no (by rw [b2_0 hc]; rfl), fun q => absurd (by decide) q⟩
      · have hcl := h_can_le (H := K) (i := s)
        refine pk_le (h_can K s) 0 (fun z => no ?_) (fun z => ?_) rfl rfl (by omega) (by omega)
        · rw [decide_eq_false (by omega)]; simp
        · rw [b2_1 hc, decide_eq_true z, Bool.true_and, if_pos rfl] at he
          refine k_deliver (Nat.le_refl 3) hK hKW hsK hcl.1 hcl.2 (fun v1 f1 R1 => ?_)
          rw [gd_rV_at, nu_1]
          exact ih (i + 1) true (h_del K s (h_can K s)) _ hl2 (by omega) hH (hKW.del hsK hcl.1) (hf.tr f1) R1 he
  exact key O 0 false H v rfl (Nat.zero_le _) rfl hW fr.rf hR rfl
end DC
/-- all passes -/
def dlv (O : List Nat) : Nat → hs_T → hs_T
  | 0, H => H
  | f + 1, H => if (dp O H false).2 then dlv O f (dp O H false).1 else (dp O H false).1
/-- open units in all -/
def h_open (H : hs_T) : Nat → Nat
  | 0 => 0
  | n + 1 => h_open H n + Hs H n 5
theorem h_open_set {H H' : hs_T} {i u : Nat} (h5 : ∀ k, ¬ k = i → Hs H' k 5 = Hs H k 5) (hu : Hs H' i 5 + u = Hs H i 5) : ∀ n, h_open H' n + (if i < n then u else 0) = h_open H n
  | 0 => rfl
  | n + 1 => by
    have ih := h_open_set h5 hu n
    show h_open H' n + Hs H' n 5 + _ = h_open H n + Hs H n 5
    by_cases e : n = i
    · subst e
      rw [if_neg (Nat.lt_irrefl n)] at ih
      rw [if_pos (Nat.lt_succ_self n)]
      omega
    · rw [h5 n e]
      by_cases q : i < n
      · rw [if_pos q] at ih; rw [if_pos (by omega)]; omega
      · rw [if_neg q] at ih; rw [if_neg (by omega)]; omega
theorem h_open_le {H : hs_T} (hW : hs_W H) : ∀ n, n ≤ Hh H 1 → h_open H n ≤ 1000 * n
  | 0, _ => Nat.le_refl 0
  | n + 1, h => by
    have h1 := h_open_le hW n (by omega)
    have h2 := hs_S5 (hW.2.2.2.2.2.2.2.2.1 n (by omega))
    have h3 := (hW.2.2.2.2.2.2.2.2.1 n (by omega)).2.2.2.1
    show h_open H n + Hs H n 5 ≤ _
    omega
theorem h_del5 {H : hs_T} {i u : Nat} (hu : u ≤ Hs H i 5) : (∀ k, ¬ k = i → Hs (h_del H i u) k 5 = Hs H k 5) ∧ Hs (h_del H i u) i 5 + u = Hs H i 5 := ⟨fun k hk => h_gon (w := 7) (by omega) (by omega), by rw [show Hs (h_del H i u) i 5 = Hs H i 5 - u from h_go5 (w := 7) (by omega)]; omega⟩
theorem dp_keeps {n : Nat} : ∀ (l : List Nat) (H : hs_T) (b : Bool), hs_W H → Hh H 1 = n → (∀ s ∈ l, s < n) → Hh (dp l H b).1 = Hh H ∧ hs_W (dp l H b).1 ∧ h_open (dp l H b).1 n ≤ h_open H n ∧ (b = false → (dp l H b).2 = true → h_open (dp l H b).1 n < h_open H n)
  | [], H, b, hW, hn, _ => ⟨rfl, hW, Nat.le_refl _, fun e e2 => by subst e; exact absurd e2 Bool.false_ne_true⟩
  | s :: l, H, b, hW, hn, hm => by
    have hs := hm s List.mem_cons_self
    have hl : ∀ x ∈ l, x < n := fun x hx => hm x (List.mem_cons_of_mem s hx)
    rw [dp_c]
    by_cases e : (hq H s && decide (0 < h_can H s)) = true
    · rw [if_pos e]
      have hcl := h_can_le (H := H) (i := s)
      have hpos : 0 < h_can H s := of_decide_eq_true (Bool.and_eq_true_iff.mp e).2
      obtain ⟨i1, i2, i3, i4⟩ := dp_keeps (n := n) l (h_del H s (h_can H s)) true (hW.del (by omega) hcl.1) hn hl
      have ho := h_open_set (h_del5 hcl.1).1 (h_del5 hcl.1).2 n
      rw [if_pos hs] at ho
      exact ⟨i1, i2, by omega, fun _ _ => by omega⟩
    · rw [if_neg e]
      exact dp_keeps (n := n) l H b hW hn hl
theorem dlv_keeps {O : List Nat} {n : Nat} (hm : ∀ s ∈ O, s < n) : ∀ (f : Nat) (H : hs_T), hs_W H → Hh H 1 = n → Hh (dlv O f H) = Hh H ∧ hs_W (dlv O f H)
  | 0, H, hW, _ => ⟨rfl, hW⟩
  | f + 1, H, hW, hn => by
    obtain ⟨i1, i2, -, -⟩ := dp_keeps (n := n) O H false hW hn hm
    show Hh (if (dp O H false).2 then dlv O f (dp O H false).1 else (dp O H false).1) = _ ∧ hs_W (if (dp O H false).2 then dlv O f (dp O H false).1 else (dp O H false).1)
    cases (dp O H false).2 with
    | false => exact ⟨i1, i2⟩
    | true =>
      have := dlv_keeps hm f (dp O H false).1 i2 (by rw [i1]; exact hn)
      exact ⟨this.1.trans i1, this.2⟩
/-! penalties -/
def pnl (H : hs_T) : Nat → hs_T
  | 0 => H
  | n + 1 => if hq H n then h_ppen (pnl H n) n (h_pen H n) else pnl H n
def pnc (H : hs_T) : Nat → Int64
  | 0 => 0
  | n + 1 => pnc H n + if hq H n then h_pen H n else 0
theorem pnl_same (H : hs_T) : ∀ n, (pnl H n).1 = H.1 ∧ (pnl H n).2.1 = H.2.1 ∧ (pnl H n).2.2.2 = H.2.2.2
  | 0 => ⟨rfl, rfl, rfl⟩
  | n + 1 => by
    have := pnl_same H n
    show (if hq H n then h_ppen (pnl H n) n (h_pen H n) else pnl H n).1 = _ ∧ (if hq H n then h_ppen (pnl H n) n (h_pen H n) else pnl H n).2.1 = _ ∧ (if hq H n then h_ppen (pnl H n) n (h_pen H n) else pnl H n).2.2.2 = _
    cases hq H n with
    | true => exact this
    | false => exact this
theorem hs_W.pn {H : hs_T} (hW : hs_W H) (n : Nat) : hs_W (pnl H n) := by
  obtain ⟨e1, e2, e3⟩ := pnl_same H n
  exact hW.J e1 e2 (by rw [e3]) (by rw [e3])
theorem hq_pn {H : hs_T} (n i : Nat) : hq (pnl H n) i = hq H i := by
  obtain ⟨e1, e2, e3⟩ := pnl_same H n
  unfold hq Hs Hh
  rw [e1, e3]
theorem Hs_pn {H : hs_T} (n i j : Nat) : Hs (pnl H n) i j = Hs H i j := by
  obtain ⟨e1, e2, e3⟩ := pnl_same H n
  unfold Hs
  rw [e3]
theorem h_pen_pn {H : hs_T} (n i : Nat) : h_pen (pnl H n) i = h_pen H i := by
  obtain ⟨e1, e2, e3⟩ := pnl_same H n
  unfold h_pen Hs Hh
  rw [e1, e3]
section PC
variable {g : ab_E} {d : Nat} {v : gd_D} {Q : ab_O → gd_D → Prop} {H : hs_T} {h : Nat}
/-- the night's own cells and the house's -/
def fn (h : Nat) (k i j : Nat) : Prop := fh h k i j ∨ (k = 4 ∧ i = 0)
theorem fn_n {k i j : Nat} (h1 : ¬ k = 2) (h2 : ¬ k = 0) (h3 : ¬ k = 9) (h4 : ¬ k = 4) : ¬ fn h k i j := fun q => by rcases q with (q | q | q) | q <;> omega
theorem cr_R.n4 {v' : gd_D} (hR : cr_R v h H) (hW : hs_W H) (hf : fr (fy [(4, 0)]) v v') : cr_R v' h H := hR.far hW hf (fun _ _ => fy_n rfl) (fun _ _ => fy_n rfl) (fun _ _ => fy_n rfl) (fun _ _ => fy_n rfl)
theorem k_payPenalties (hd : 4 ≤ d) (hR : cr_R v h H) (hW : hs_W H) (hQ : ∀ v', fr (fn h) v v' → cr_R v' h (pnl H (Hh H 1)) → v'.1 4 0 3 = nI (hf H (Hh H 1)) → v'.1 4 0 4 = nI (hu H none none (Hh H 1)) → v'.2.1 4 0 5 = pnc H (Hh H 1) → Q (Sum.inl none) v') : gd_C g mX4_payPenalties d 0 0 [zR 4 0, zR 2 h] v Q := by
  have h24 := hW.2.1
  refine c_X4_payPenalties hd (k_countFails (Nat.le_refl 3) hR hW ?_)
  rintro _ rfl
  have y4 : ∀ {j : Nat}, fy [(4, 0)] 4 0 j := fun {j} => fy_y 0 rfl
  have f1 : fr (fy [(4, 0)]) v (gd_sI v 4 0 3 (nI (hf H (Hh H 1)))) := fr.sI y4
  refine k_unitsOf (a := none) (b := none) (fun y hy => by cases hy) (fun y hy => by cases hy) (Nat.le_refl 3) (hR.n4 hW f1) hW ?_
  rintro _ rfl
  rintro _ rfl
  have f3 : fr (fy [(4, 0)]) v (gd_sJ (gd_sI (gd_sI v 4 0 3 (nI (hf H (Hh H 1)))) 4 0 4 (nI (hu H none none (Hh H 1)))) 4 0 5 0) := (f1.tr (fr.sI y4)).tr (fr.sJ y4)
  have key : ∀ k i (u : gd_D), i + k = Hh H 1 → fr (fn h) v u → cr_R u h (pnl H i) → u.1 4 0 3 = nI (hf H (Hh H 1)) → u.1 4 0 4 = nI (hu H none none (Hh H 1)) → u.2.1 4 0 5 = pnc H i → gd_G g mX4_payPenalties d 0 0 25 [(0, zR 4 0), (1, zR 2 h), (2, zI (nI i))] [] u Q := by
    intro k
    induction k with
    | zero =>
      intro i u hi hfr hK e3 e4 e5
      have e : i = Hh H 1 := by omega
      subst e
      refine w_X4_payPenalties_25 (by omega) (pk_le (Hh H 1) (Hh H 1) (fun _ => hQ u hfr hK e3 e4 e5) (fun q => absurd q (Nat.lt_irrefl _)) ?_ rfl (by omega) (by omega))
      have := hK.1 1 (by omega)
      unfold Hh at this
      rw [(pnl_same H (H.1 1)).1] at this
      exact this
    | succ k ih =>
      intro i u hi hfr hK e3 e4 e5
      have hlt : i < Hh H 1 := by omega
      have hKW := hW.pn i
      have hKn : Hh (pnl H i) 1 = Hh H 1 := by unfold Hh; rw [(pnl_same H i).1]
      have hiK : i < Hh (pnl H i) 1 := by omega
      refine w_X4_payPenalties_25 (by omega) (pk_le (Hh H 1) i (fun q => absurd q (by omega)) (fun _ => k_isAsked hK hKW hiK ?_) (by have := hK.1 1 (by omega); rw [hKn] at this; exact this) rfl (by omega) (by omega))
      rw [hq_pn]
      refine ⟨fun hc => ?_, fun hc => k_penOf hK hKW hiK ?_⟩
      · have e := b2_0 hc
        rw [nu_1]
        refine ih (i + 1) u (by omega) hfr ?_ e3 e4 ?_
        · rw [show pnl H (i + 1) = pnl H i from by show (if hq H i then _ else pnl H i) = _; rw [e]; rfl]; exact hK
        · rw [show pnc H (i + 1) = pnc H i from by show pnc H i + (if hq H i then _ else 0) = _; rw [e]; simp]; exact e5
      · have e := b2_1 hc
        rintro _ rfl
        rw [h_pen_pn]
        have f6 : fr (fy [(4, 0)]) u (gd_sJ u 4 0 5 (u.2.1 4 0 5 + h_pen H i)) := fr.sJ y4
        refine k_ppen (hK.n4 hKW f6) hKW hiK (fun v7 f7 R7 => ?_)
        rw [gd_rV_at, nu_1]
        refine ih (i + 1) v7 (by omega) ((hfr.tr (f6.wk (fun k i j q => Or.inr (Prod.mk.inj (List.mem_singleton.mp q))))).tr (f7.wk (fun k i j q => Or.inl q))) ?_ ?_ ?_ ?_
        · rw [show pnl H (i + 1) = h_ppen (pnl H i) i (h_pen H i) from by show (if hq H i then _ else pnl H i) = _; rw [e]; rfl]; exact R7
        · rw [f7.I (fun _ => fh_n (by decide) (by decide) (by decide))]; exact e3
        · rw [f7.I (fun _ => fh_n (by decide) (by decide) (by decide))]; exact e4
        · rw [f7.J (fun _ => fh_n (by decide) (by decide) (by decide)), sJ_at, e5]
          show _ = pnc H i + (if hq H i then _ else 0)
          rw [e]; rfl
  exact key (Hh H 1) 0 _ (by omega) (f3.wk (fun k i j q => Or.inr (Prod.mk.inj (List.mem_singleton.mp q)))) (hR.n4 hW f3) (by rw [show (gd_sJ (gd_sI (gd_sI v 4 0 3 (nI (hf H (Hh H 1)))) 4 0 4 (nI (hu H none none (Hh H 1)))) 4 0 5 0).1 4 0 3 = (gd_sI (gd_sI v 4 0 3 (nI (hf H (Hh H 1)))) 4 0 4 (nI (hu H none none (Hh H 1)))).1 4 0 3 from rfl, sI_ne (by omega), sI_at]) (by rw [show (gd_sJ (gd_sI (gd_sI v 4 0 3 (nI (hf H (Hh H 1)))) 4 0 4 (nI (hu H none none (Hh H 1)))) 4 0 5 0).1 4 0 4 = (gd_sI (gd_sI v 4 0 3 (nI (hf H (Hh H 1)))) 4 0 4 (nI (hu H none none (Hh H 1)))).1 4 0 4 from rfl, sI_at]) sJ_at
end PC
