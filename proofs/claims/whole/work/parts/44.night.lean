/-! THE NIGHT, on both sides -/
def bi_c (H : hs_T) (s : Nat) : Bool := hq H s && (decide (Hh H 6 + Hs H s 4 ≤ Hh H 2) && !(h_sells H (Hs H s 1)))
def bis (O : List Nat) : List Nat → hs_T → hs_T
  | [], H => H
  | s :: l, H => bis O l (if bi_c H s then bn H O s (Hs H s 5) else H)
theorem bis_c {O l : List Nat} {s : Nat} {H : hs_T} : bis O (s :: l) H = bis O l (if bi_c H s then bn H O s (Hs H s 5) else H) := rfl
theorem bis_keeps {O : List Nat} : ∀ (l : List Nat) (H : hs_T), hs_W H → ord_ok O (Hh H 1) → (∀ s ∈ l, s < Hh H 1) → hs_W (bis O l H) ∧ Hh (bis O l H) = Hh H
  | [], H, hW, _, _ => ⟨hW, rfl⟩
  | s :: l, H, hW, hO, hl => by
    rw [bis_c]
    cases bi_c H s with
    | false => exact bis_keeps l H hW hO (fun x hx => hl x (List.mem_cons_of_mem s hx))
    | true =>
      rw [if_pos rfl]
      obtain ⟨b1, b2⟩ := bn_W hW hO (hl s List.mem_cons_self) (Nat.le_refl _)
      have := bis_keeps (O := O) l (bn H O s (Hs H s 5)) b1 (by rw [b2]; exact hO) (fun x hx => by rw [b2]; exact hl x (List.mem_cons_of_mem s hx))
      exact ⟨this.1, this.2.trans b2⟩
noncomputable def nt2 (H : hs_T) : hs_T := dlv (hs_O H) 24001 (rgs (hs_O H) 24 H)
noncomputable def nt4 (H : hs_T) : hs_T := bis (hs_O H) (hs_O H) (pnl (nt2 H) (Hh H 1))
noncomputable def nt (H : hs_T) : hs_T := hsH (nt4 H) 2 (Hh H 2 + 1)
noncomputable def nt_f (H : hs_T) : Nat := hf (nt2 H) (Hh H 1)
noncomputable def nt_u (H : hs_T) : Nat := hu (nt2 H) none none (Hh H 1)
noncomputable def nt_p (H : hs_T) : Int64 := pnc (nt2 H) (Hh H 1)
theorem nt2_keeps {H : hs_T} (hW : hs_W H) : hs_W (nt2 H) ∧ Hh (nt2 H) = Hh H := by
  obtain ⟨a1, a2⟩ := rgs_keeps (O := hs_O H) 24 H hW
  obtain ⟨b1, b2⟩ := dlv_keeps (O := hs_O H) (n := Hh H 1) (fun s hs => ((hs_O_ok H).2.1 s).mp hs) 24001 (rgs (hs_O H) 24 H) a1 (by rw [a2])
  exact ⟨b2, b1.trans a2⟩
theorem nt4_keeps {H : hs_T} (hW : hs_W H) : hs_W (nt4 H) ∧ Hh (nt4 H) = Hh H := by
  obtain ⟨a1, a2⟩ := nt2_keeps hW
  have e : Hh (pnl (nt2 H) (Hh H 1)) = Hh H := ((pnl_same (nt2 H) (Hh H 1)).1).trans a2
  obtain ⟨b1, b2⟩ := bis_keeps (O := hs_O H) (hs_O H) (pnl (nt2 H) (Hh H 1)) (a1.pn _) (by rw [e]; exact hs_O_ok H) (fun s hs => by rw [e]; exact ((hs_O_ok H).2.1 s).mp hs)
  exact ⟨b1, b2.trans e⟩
theorem hsH_at {H : hs_T} {j x : Nat} : Hh (hsH H j x) j = x := by
  show (if j = j then x else H.1 j) = x
  rw [if_pos rfl]
theorem hs_W.day {H : hs_T} {x : Nat} (hW : hs_W H) (hx : x ≤ 5030) : hs_W (hsH H 2 x) := by
  obtain ⟨a0, a1, a2, a3, a4, a5, a6, a7, a8, a9⟩ := hW
  have e : ∀ j, ¬ j = 2 → Hh (hsH H 2 x) j = Hh H j := fun j hj => if_neg hj
  have e2 : Hh (hsH H 2 x) 2 = x := hsH_at
  refine ⟨by rw [e 0 (by omega)]; exact a0, by rw [e 1 (by omega)]; exact a1, by rw [e2]; exact hx, by rw [e 3 (by omega)]; exact a3, by rw [e 4 (by omega)]; exact a4, by rw [e 5 (by omega)]; exact a5, by rw [e 6 (by omega)]; exact a6, fun i hi => ?_, fun i hi => ?_, a9⟩
  · rw [e 0 (by omega)] at hi
    rw [e 1 (by omega), hs_used_J (H := H) (H' := hsH H 2 x) rfl]
    exact a7 i hi
  · rw [e 1 (by omega)] at hi
    obtain ⟨s1, s2, s3⟩ := a8 i hi
    exact ⟨by rw [e 0 (by omega)]; exact s1, by rw [e 0 (by omega)]; exact s2, s3⟩
theorem nt_keeps {H : hs_T} (hW : hs_W H) (hd : Hh H 2 < 5030) : hs_W (nt H) ∧ (∀ j, ¬ j = 2 → Hh (nt H) j = Hh H j) ∧ Hh (nt H) 2 = Hh H 2 + 1 := by
  obtain ⟨a1, a2⟩ := nt4_keeps hW
  exact ⟨a1.day (by omega), fun j hj => (if_neg hj).trans (by rw [← a2]), hsH_at⟩
theorem nu_late {a b c : Nat} (ha : a < 2 ^ 30) (hb : b < 2 ^ 30) (hc : c < 2 ^ 30) : (nI a - nI b < nI c) ↔ a < c + b := by
  rw [Int32.lt_iff_toInt_lt, pk_sub_toInt ha hb, nI_toInt (by omega)]
  omega
theorem nu_lateJ {a b c : Nat} (ha : a < 2 ^ 30) (hb : b < 2 ^ 30) (hc : c < 2 ^ 30) : (lN a - lN b < lN c) ↔ a < c + b := by
  rw [Int64.lt_iff_toInt_lt, Int64.toInt_sub, lN_toInt (by omega), lN_toInt (by omega), lN_toInt (by omega), Int.bmod_eq_of_le (by omega) (by omega)]
  omega
section NC
variable {g : ab_E} {d : Nat} {v : gd_D} {Q : ab_O → gd_D → Prop} {H : hs_T} {h : Nat}
theorem k_buyInLate {O : List Nat} (hd : 42 ≤ d) (hR : cr_R v h H) (hW : hs_W H) (hO : cr_O v 1 O) (hOk : ord_ok O (Hh H 1)) (hQ : ∀ v', fr (fb h 1) v v' → cr_R v' h (bis O O H) → Q (Sum.inl none) v') : gd_C g mX4_buyInLate d 0 0 [zR 4 0, zR 2 h] v Q := by
  have h24 := hW.2.1
  have hl := hOk.1
  refine c_X4_buyInLate (Nat.zero_le _) ?_
  have key : ∀ (l : List Nat) (i : Nat) (K : hs_T) (u : gd_D), O.drop i = l → i ≤ O.length → hs_W K → Hh K = Hh H → fr (fb h 1) v u → cr_R u h K → bis O l K = bis O O H → gd_G g mX4_buyInLate d 0 0 2 [(0, zR 4 0), (1, zR 2 h), (2, zI (nI i))] [] u Q := by
    intro l
    induction l with
    | nil =>
      intro i K u hl2 hi hKW hH hfr hK he
      have ei := drop_end hl2 hi
      have hOu : cr_O u 1 O := ⟨by rw [hfr.I (fun _ q => by rcases q with q | q; exact fh_n (by decide) (by decide) (by decide) q; exact fy_n rfl q)]; exact hO.1, fun j hj => by rw [hfr.I (fun _ q => by rcases q with q | q; exact fh_n (by decide) (by decide) (by decide) q; exact fy_n rfl q)]; exact hO.2 j hj⟩
      have he' : K = bis O O H := he
      subst he'
      exact w_X4_buyInLate_2 hd (pk_le O.length i (fun _ => hQ u hfr hK) (fun q => absurd q (by omega)) hOu.1 rfl (by omega) (by omega))
    | cons s l ih =>
      intro i K u hl2 hi hKW hH hfr hK he
      obtain ⟨hi2, e0, hl3, hmem⟩ := drop_at hl2
      have hOu : cr_O u 1 O := ⟨by rw [hfr.I (fun _ q => by rcases q with q | q; exact fh_n (by decide) (by decide) (by decide) q; exact fy_n rfl q)]; exact hO.1, fun j hj => by rw [hfr.I (fun _ q => by rcases q with q | q; exact fh_n (by decide) (by decide) (by decide) q; exact fy_n rfl q)]; exact hO.2 j hj⟩
      have hs : s < Hh K 1 := by rw [hH]; exact (hOk.2.1 s).mp hmem
      have hs24 : s < 24 := by have := hKW.2.1; omega
      have eO : u.1 21 1 i = nI s := by rw [hOu.2 i hi2, e0]
      obtain ⟨s1, s2, s0, s3, s4, s5, s6⟩ := hKW.2.2.2.2.2.2.2.2.1 s hs
      have h8 := hKW.1
      have hday := hKW.2.2.1
      have hpat := hKW.2.2.2.2.2.2.1
      rw [bis_c] at he
      have no : bi_c K s = false → ∀ z : gd_D, z = u → gd_G g mX4_buyInLate d 0 0 2 [(0, zR 4 0), (1, zR 2 h), (2, zI (nI i + 1))] [] z Q := by
        rintro e z rfl
        rw [e, if_neg Bool.false_ne_true] at he
        rw [nu_1]
        exact ih (i + 1) K z hl3 (by omega) hKW hH hfr hK he
      refine w_X4_buyInLate_2 hd (pk_le O.length i (fun q => absurd q (by omega)) (fun _ => ⟨nu_in (by omega) (by omega), ?_⟩) hOu.1 rfl (by omega) (by omega))
      rw [nI_clamp (by omega), eO, nI_clamp (by omega)]
      refine ⟨nu_in (by omega) (by omega), ?_⟩
      rintro _ rfl
      rw [show u.1 2 h 4 = nI (Hh K 2) from hK.1 2 (by omega), show u.1 2 h 8 = nI (Hh K 6) from hK.1 6 (by omega), hK.2.2.2.1 s hs 4 (by omega), nu_late (by omega) (by omega) (by omega)]
      refine ⟨fun hlt => ?_, fun hlt => ?_⟩
      · refine ⟨fun _ => no ?_ u rfl, fun q => absurd rfl q⟩
        unfold bi_c
        rw [decide_eq_false (by omega), Bool.false_and, Bool.and_false]
      · refine ⟨fun q => absurd q (by decide), fun _ => k_isAsked hK hKW hs ⟨fun hc => no ?_ u rfl, fun hc => ⟨nu_in (by omega) (by omega), ?_⟩⟩⟩
        · unfold bi_c
          rw [b2_0 hc, Bool.false_and]
        · rintro _ rfl
          rw [nI_clamp (by omega), hK.2.2.2.1 s hs 1 (by omega)]
          refine k_sells (by omega) (Nat.le_refl 4) hK hKW ⟨fun hc2 => no ?_ u rfl, fun hc2 => ⟨nu_in (by omega) (by omega), ?_⟩⟩
          · unfold bi_c
            rw [b2_1 hc2, Bool.not_true, Bool.and_false, Bool.and_false]
          · rintro _ rfl
            rw [hK.2.2.2.1 s hs 5 (by omega)]
            have ebi : bi_c K s = true := by
              unfold bi_c
              rw [b2_1 hc, b2_0 hc2, decide_eq_true (by omega)]; rfl
            rw [ebi, if_pos rfl] at he
            have hOK : ord_ok O (Hh K 1) := by rw [hH]; exact hOk
            obtain ⟨b1, b2⟩ := bn_W hKW hOK hs (Nat.le_refl _)
            refine k_buyIn (Nat.le_refl 41) hK hKW hOu hOK hs (Nat.le_refl _) (fun v2 f2 R2 => ?_)
            rw [gd_rV_at, nu_1]
            exact ih (i + 1) _ v2 hl3 (by omega) b1 (b2.trans hH) (hfr.tr f2) R2 he
  exact key O 0 H v rfl (Nat.zero_le _) hW rfl fr.rf hR rfl
/-- the cells of a night over house h -/
def fNl : List (Nat × Nat) := [(4, 0), (5, 1), (21, 1), (22, 1), (23, 1), (6, 1), (24, 1), (25, 1), (26, 1), (27, 1), (28, 1), (29, 1), (30, 1), (8, 1), (36, 1), (37, 1)]
def fN (h k i j : Nat) : Prop := fh h k i j ∨ fy fNl k i j
theorem fy_sub {l m : List (Nat × Nat)} (h : l.all (fun p => decide (p ∈ m)) = true) : ∀ k i j, fy l k i j → fy m k i j := fun k i j q => by
  have q2 : (k, i) ∈ m := of_decide_eq_true (List.all_eq_true.mp h (k, i) q)
  exact q2
theorem k_pass (hd : 43 ≤ d) (hR : cr_R v h H) (hW : hs_W H) (hQ : ∀ v', fr (fN h) v v' → cr_R v' h (nt H) → v'.1 4 0 3 = nI (nt_f H) → v'.1 4 0 4 = nI (nt_u H) → v'.2.1 4 0 5 = nt_p H → Q (Sum.inl none) v') : gd_C g mX4_pass d 0 0 [zR 4 0, zR 2 h] v Q := by
  have hOk := hs_O_ok H
  have hday := hW.2.2.1
  refine c_X4_pass (by omega) (k_arrange (Nat.le_refl 4) hR hW (fun v1 f1 O1 => ?_))
  rw [gd_rV_at]
  have R1 : cr_R v1 h H := hR.far hW f1 (fun _ _ => fy_n rfl) (fun _ _ => fy_n rfl) (fun _ _ => fy_n rfl) (fun _ _ => fy_n rfl)
  refine k_settleRings (Nat.le_refl 6) R1 hW O1 hOk (fun v2 f2 R2 => ?_)
  rw [gd_rV_at]
  have O2 : cr_O v2 1 (hs_O H) := ⟨by rw [f2.I (fun _ q => by rcases q with q | q; exact fh_n (by decide) (by decide) (by decide) q; exact fy_n rfl q)]; exact O1.1, fun j hj => by rw [f2.I (fun _ q => by rcases q with q | q; exact fh_n (by decide) (by decide) (by decide) q; exact fy_n rfl q)]; exact O1.2 j hj⟩
  have F2 : fr (fN h) v v2 := (f1.wk (fun k i j q => Or.inr (fy_sub (by decide) k i j q))).tr (f2.wk (fun k i j q => by
    rcases q with q | q
    · exact Or.inl q
    · exact Or.inr (fy_sub (by decide) k i j q)))
  obtain ⟨w1, w2⟩ := rgs_keeps (O := hs_O H) 24 H hW
  -- behind delivery
  have rest : ∀ (u : gd_D), fr (fN h) v u → cr_O u 1 (hs_O H) → cr_R u h (nt2 H) → wp_X4_pass_40 g d h u Q := by
    intro u Fu Ou Ru
    obtain ⟨q1, q2⟩ := nt2_keeps hW
    have eN : Hh (nt2 H) 1 = Hh H 1 := by rw [q2]
    refine k_payPenalties (Nat.le_refl 4) Ru q1 (fun v3 f3 R3 p1 p2 p3 => ?_)
    rw [gd_rV_at]
    rw [eN] at R3 p1 p2 p3
    have O3 : cr_O v3 1 (hs_O H) := ⟨by rw [f3.I (fun _ => fn_n (by decide) (by decide) (by decide) (by decide))]; exact Ou.1, fun j hj => by rw [f3.I (fun _ => fn_n (by decide) (by decide) (by decide) (by decide))]; exact Ou.2 j hj⟩
    have e3 : Hh (pnl (nt2 H) (Hh H 1)) = Hh H := ((pnl_same (nt2 H) (Hh H 1)).1).trans q2
    refine k_buyInLate (Nat.le_refl 42) R3 (q1.pn _) O3 (by rw [e3]; exact hOk) (fun v4 f4 R4 => ?_)
    rw [gd_rV_at]
    rintro _ rfl
    have R4' : cr_R v4 h (nt4 H) := R4
    have d4 : v4.1 2 h 4 = nI (Hh H 2) := by
      have := R4'.1 2 (by omega)
      rw [(nt4_keeps hW).2] at this; exact this
    rw [d4, nu_1]
    have f4' : ∀ k i, ¬ k = 2 → ¬ k = 0 → ¬ k = 9 → decide (k ∈ (fp 1).map Prod.fst) = false → v4.1 k i = v3.1 k i ∧ v4.2.1 k i = v3.2.1 k i := fun k i a b c e => ⟨f4.I (fun _ q => by rcases q with q | q; exact fh_n a b c q; exact fy_n e q), f4.J (fun _ q => by rcases q with q | q; exact fh_n a b c q; exact fy_n e q)⟩
    refine hQ _ (((Fu.tr (f3.wk (fun k i j q => ?_))).tr (f4.wk (fun k i j q => ?_))).tr (fr.sI (Or.inl fh2))) (cr_sH (j := 2) R4' (by omega)) ?_ ?_ ?_
    · rcases q with q | q
      · exact Or.inl q
      · obtain ⟨rfl, rfl⟩ := q
        exact Or.inr (fy_y 0 rfl)
    · rcases q with q | q
      · exact Or.inl q
      · exact Or.inr (fy_sub (by decide) k i j q)
    · rw [sI_ne (by omega), (f4' 4 0 (by decide) (by decide) (by decide) (by decide)).1]; exact p1
    · rw [sI_ne (by omega), (f4' 4 0 (by decide) (by decide) (by decide) (by decide)).1]; exact p2
    · show v4.2.1 4 0 5 = _
      rw [(f4' 4 0 (by decide) (by decide) (by decide) (by decide)).2]; exact p3
  have key : ∀ (f i : Nat) (K : hs_T) (u : gd_D), i + f = 24001 → hs_W K → Hh K = Hh H → fr (fN h) v u → cr_O u 1 (hs_O H) → cr_R u h K → dlv (hs_O H) f K = nt2 H → gd_G g mX4_pass d 0 0 17 [(0, zR 4 0), (1, zR 2 h), (2, zI 1), (3, zI (nI i))] [] u Q := by
    intro f
    induction f with
    | zero =>
      intro i K u hi hKW hH Fu Ou Ru he
      have ei : i = 24001 := by omega
      subst ei
      have he' : K = nt2 H := he
      subst he'
      exact w_X4_pass_17 hd (pk_le 24001 24001 (fun _ => rest u Fu Ou Ru) (fun q => absurd q (by omega)))
    | succ f ih =>
      intro i K u hi hKW hH Fu Ou Ru he
      refine w_X4_pass_17 hd (pk_le 24001 i (fun q => absurd q (by omega)) (fun _ => ⟨fun q => absurd q (by decide), fun _ => ?_⟩))
      obtain ⟨k1, k2, -, -⟩ := dp_keeps (n := Hh H 1) (hs_O H) K false hKW (by rw [hH]) (fun s hs => (hOk.2.1 s).mp hs)
      refine k_deliverAll (Nat.le_refl 4) Ru hKW Ou (by rw [hH]; exact hOk.1) (fun s hs => by rw [hH]; exact (hOk.2.1 s).mp hs) (fun v3 f3 R3 => ?_)
      rw [gd_rI_at, nu_1]
      have he' : (if (dp (hs_O H) K false).2 then dlv (hs_O H) f (dp (hs_O H) K false).1 else (dp (hs_O H) K false).1) = nt2 H := he
      have F3 := Fu.tr (f3.wk (fun k i j q => Or.inl q))
      cases hb : (dp (hs_O H) K false).2 with
      | true =>
        rw [hb, if_pos rfl] at he'
        exact ih (i + 1) _ v3 (by omega) k2 (k1.trans hH) F3 (Ou.kh f3) R3 he'
      | false =>
        rw [hb, if_neg Bool.false_ne_true] at he'
        rw [he'] at R3
        refine w_X4_pass_17 hd (pk_le 24001 (i + 1) (fun _ => rest v3 F3 (Ou.kh f3) R3) (fun _ => ⟨fun _ => rest v3 F3 (Ou.kh f3) R3, fun q => absurd rfl q⟩) rfl rfl (by omega) (by omega))
  exact key 24001 0 _ v2 (by omega) w1 w2 F2 O2 R2 rfl
end NC
