/-! TEXT, the reference's side: rules, once, a line -/
section RLQ
variable {g : ab_E} {d : Nat} {v : gd_D} {Q : ab_O → gd_D → Prop} {T : Nat → Int32} {n : Nat}
theorem r_ruleRead {p : Nat} {u : uT} (hd : 41 ≤ d) (hE : rE v T n p) (hw : wi T n p = 6) (hr : rd (v.2.1 41 0) u) (hc : rC v (Hc u.1)) (hu : uOK u) (hQ : ∀ v', fr fM v v' → rU v' T n (pRule T n p u) → Q (Sum.inl none) v') : gd_C g mX11_ruleRead d 0 0 [zR 11 0] v Q := by
  have h8 := hu.1.1
  obtain ⟨t1, hh1, hf1, hst⟩ := id hE
  have hn := t1.1
  have hp := hst.1
  obtain ⟨P1, f1, hlt⟩ := hE.w (by omega) hw
  have hnx := nx_sp (T := T) hlt
  have el : p + tx_n 6 = p + 4 := rfl
  rw [el] at P1 f1
  have hl : (Hc u.1).length ≤ 500 := hu.1.2.2.2.2.2.2.2.2.2.1
  have f16 : ∀ w : gd_D, fr fM w (gd_sI w 11 0 16 0) := fun w => fr.sI (Or.inr (Or.inl ⟨rfl, rfl, rfl⟩))
  refine c_X11_ruleRead hd ⟨nu_in (n := 7) (by decide) (by decide), ?_⟩
  rw [show ((7 : Int32)).toNatClampNeg = 7 from by decide, hc.1, nu_J 0, lN_le (by omega) (by omega)]
  refine ⟨fun h0 => ?_, fun h0 => ?_⟩
  · have hC0 : Hc u.1 = [] := List.length_eq_zero_iff.mp (by omega)
    have hs7 := hu.2.2.2.2.2.mpr hC0
    intro v1 h1
    rw [hh1, nu_I 4, nI_add] at h1
    subst h1
    rintro _ rfl
    have c1 := hc.D f1
    rw [hC0] at c1
    have X2 : rXx (gd_sI (gd_sI v 11 0 11 (nI (p + 4))) 11 0 16 0) T n (Sum.inr (nx T n p, [])) := ⟨P1.o, c1.o⟩
    refine r_expression hn (by omega) X2 (fun q M e => by cases e; exact ⟨hnx.2, Nat.zero_le _⟩) (fun q _ => sI_at) (fun v3 f3 X3 => ?_)
    rw [gd_rV_at]
    rw [xb_r] at X3
    have F3 : fr fM v v3 := ((f1.wk fD_M).tr (f16 _)).tr (f3.wk fJ_M)
    have ep : pRule T n p u = match pS T n (pF T n 5) (nx T n p) [] with
        | Sum.inl e => Sum.inl e
        | Sum.inr q => Sum.inr (q.1, (hsC u.1 q.2, su u.2 7)) := if_neg (by rw [hs7]; exact Bool.false_ne_true)
    refine hQ v3 F3 ?_
    rw [ep]
    cases hx : pS T n (pF T n 5) (nx T n p) [] with
    | inl e => rw [hx] at X3; exact X3
    | inr q =>
      rw [hx] at X3
      obtain ⟨a, b⟩ := X3
      refine ⟨a, rd_rule (hr.J f1) h8 (fun q q7 q273 => ?_), b⟩
      exact (f3.1 41 0 q (fun z => by
        rcases z with z | z | z
        · exact absurd z.1 (by decide)
        · exact absurd z.1 (by decide)
        · have := z.2.2; omega)).2
  · have hs7 : u.2 7 = true := by
      cases e : u.2 7 with
      | true => rfl
      | false =>
        have := hu.2.2.2.2.2.mp e
        rw [this] at h0
        exact absurd (Nat.le_refl 0) h0
    rw [hh1]
    refine r_wrong (w := 1) (by omega) (by omega) hE.P (fun v1 g1 e11 _ Q1 => ?_)
    rw [gd_rV_at]
    have Q1 : rP v1 T n (Sum.inl (1, p)) := Q1
    intro v2 h2
    rw [e11, hh1, nu_I 4, nI_add] at h2
    subst h2
    rintro _ rfl
    have f2 : fr fD v1 (gd_sI v1 11 0 11 (nI (p + 4))) := fr.sI ⟨rfl, rfl, Or.inl rfl⟩
    refine r_expression (x := Sum.inl (1, p)) hn (by omega) (show rP _ T n (Sum.inl (1, p)) from (Q1.dd (h := p + 4) (by omega)).o) xok_l (fun q h => by cases h) (fun v3 f3 X3 => ?_)
    rw [gd_rV_at]
    refine hQ v3 ((((g1.tr f2).wk fD_M).tr (f16 _)).tr (f3.wk fJ_M)) ?_
    rw [show pRule T n p u = Sum.inl (1, p) from if_pos hs7]
    exact X3
theorem lN_m1 {x : Nat} (h : x < 2 ^ 31) : ¬ lN x = (-1 : Int64) := fun q => by
  have := congrArg Int64.toInt q
  rw [lN_toInt h, show ((-1 : Int64)).toInt = -1 from by decide] at this
  omega
theorem r_isOnce {p i j lo hN : Nat} {u : uT} (hi : i < 14) (j3 : 3 ≤ j) (j6 : j ≤ 6) (hlo : lo ≤ 1) (hhN : hN ≤ 10000) (hd : 8 ≤ d) (hP : rP v T n (Sum.inr p)) (hr : rd (v.2.1 41 0) u) (hc : rC v (Hc u.1)) (hu : uOK u) (h0 : ∀ v', ¬ wi T n p = i → fr fD v v' → rE v' T n p → Q (Sum.inl (some (zI 0))) v') (h1 : ∀ v', wi T n p = i → fr fM v v' → rU v' T n (pOne T n j lo (hN + 1) p u) → Q (Sum.inl (some (zI 1))) v') : gd_C g mX11_isOnce d 0 0 [zR 11 0, zR 100 i, zI (nI j), zI (nI lo), zI (nI hN)] v Q := by
  have h8 := hu.1.1
  have hl : tx_n i < 100 := (tx_all i hi).1
  have hl6 : ∀ i, i < 14 → tx_n i ≤ 6 := by decide +kernel
  have hb : Hh u.1 j < 2 ^ 31 := by
    obtain ⟨a0, a1, a2, a3, a4, a5, a6, -⟩ := hu.1
    have hcj : j = 3 ∨ j = 4 ∨ j = 5 ∨ j = 6 := by omega
    rcases hcj with q | q | q | q <;> subst q <;> omega
  obtain ⟨ht, k, hk, e0, e3, e4⟩ := id hP
  refine c_X11_isOnce hd (pk_lt 0 0 (fun q => absurd q (by omega)) (fun _ => r_isHere hi (Nat.le_refl 7) hP (fun v1 f1 E1 => ?_)) rfl e3 (by omega) (by omega))
  rw [gd_rI_at]
  refine ⟨fun z => ?_, fun z => h0 v1 (of_decide_eq_false (b2_0 z)) (f1.wk fD1_D) E1⟩
  have hw := of_decide_eq_true (b2_1 z)
  obtain ⟨t1, hh1, hf1, hst⟩ := id E1
  have hn := t1.1
  have hp := hst.1
  have r1 := hr.J (f1.wk fD1_D)
  have c1 := hc.D (f1.wk fD1_D)
  obtain ⟨P2, f2, hlt⟩ := E1.w hi hw
  rw [nI_clamp (by omega), r1.2.2.2.1 j j3 j6]
  refine ⟨nu_in (by omega) (by omega), fun hs => ?_, fun hs => ?_⟩
  · have hsj : u.2 j = false := by
      cases e : u.2 j with
      | false => rfl
      | true => rw [e, if_pos rfl] at hs; exact absurd hs (lN_m1 hb)
    have ep : pOne T n j lo (hN + 1) p u = nb (pNum T n lo (hN + 1) none (nx T n p)) (fun w q => Sum.inr (q, (hsH u.1 j w, su u.2 j))) := if_neg (by rw [hsj]; exact Bool.false_ne_true)
    rintro _ rfl v2 h2
    rw [hh1, show (Int32.ofNat (ab_tn.getD i 0)) = nI (tx_n i) from rfl, nI_add] at h2
    subst h2
    rw [nu_l (by omega), nu_l (by omega)]
    refine r_number (a := lo) (hx := hN + 1) (by rw [lN_toInt (by omega)]; omega) hlo (Nat.le_refl 3) P2 (fun v3 x e he f3 P3 => ?_) (fun v3 p' w q ep' he f3 _ P3 => ?_)
    · rw [gd_rJ_at]
      have he : pNum T n lo (hN + 1) none (nx T n p) = Sum.inl e := he
      refine ⟨fun _ => h1 v3 hw (((f1.wk fD1_M).tr (f2.wk fD_M)).tr (f3.wk fD_M)) ?_, fun z => absurd z P3.dead.1⟩
      rw [ep, he]; exact P3
    · cases ep'
      rw [gd_rJ_at]
      refine ⟨fun z => absurd P3.live.1 z, fun _ => ⟨nu_in (by omega) (by omega), ?_⟩⟩
      rintro _ rfl
      rw [nI_clamp (by omega)]
      have r3 := r1.J (f2.tr f3)
      have c3 := c1.D (f2.tr f3)
      refine h1 _ hw ((((f1.wk fD1_M).tr (f2.wk fD_M)).tr (f3.wk fD_M)).tr (fr.sJ (Or.inr (Or.inr ⟨rfl, rfl⟩)))) ?_
      rw [ep, he, nb_r]
      exact ⟨P3.e rfl, rd_one r3 h8 j3 j6 sJ_at (fun q hq => sJ_ne (by omega)), by rw [sJ_ne (by omega)]; exact c3.1, fun x hx => by rw [sJ_ne (by omega)]; exact c3.2 x hx⟩
  · have hsj : u.2 j = true := by
      cases e : u.2 j with
      | true => rfl
      | false => rw [e, if_neg Bool.false_ne_true] at hs; exact absurd rfl hs
    rw [hh1]
    refine r_wrong (w := 1) (by omega) (by omega) E1.P (fun v2 g2 e11 _ Q2 => ?_)
    rw [gd_rV_at]
    have Q2 : rP v2 T n (Sum.inl (1, p)) := Q2
    rintro _ rfl v3 h3
    rw [e11, hh1, show (Int32.ofNat (ab_tn.getD i 0)) = nI (tx_n i) from rfl, nI_add] at h3
    subst h3
    have := hl6 i hi
    have f3 : fr fD v2 (gd_sI v2 11 0 11 (nI (p + tx_n i))) := fr.sI ⟨rfl, rfl, Or.inl rfl⟩
    refine r_nD (Nat.le_refl 3) (Q2.dd (h := p + tx_n i) (by omega)) (fun v4 x f4 P4 => ?_)
    rw [gd_rJ_at]
    refine ⟨fun _ => h1 v4 hw ((f1.wk fD1_M).tr (((g2.tr f3).tr f4).wk fD_M)) ?_, fun z => absurd z P4.dead.1⟩
    rw [show pOne T n j lo (hN + 1) p u = Sum.inl (1, p) from if_pos hsj]
    exact P4
/-- a line, with its end -/
def pLn (T : Nat → Int32) (n p : Nat) (u : uT) : rL := match pLine T n p u with
  | Sum.inl e => Sum.inl e
  | Sum.inr q => (match yG T n 59 q.1 with
    | Sum.inl e => Sum.inl e
    | Sum.inr q' => Sum.inr (q', q.2))
theorem r_line {p : Nat} {u : uT} (hd : 42 ≤ d) (hP : rP v T n (Sum.inr p)) (hst : stt T n p) (hr : rd (v.2.1 41 0) u) (hc : rC v (Hc u.1)) (hu : uOK u) (hQ : ∀ v', fr fM v v' → rU v' T n (pLn T n p u) → Q (Sum.inl none) v') : gd_C g mX11_line d 0 0 [zR 11 0] v Q := by
  have hw14 := wi_le T n p
  have e115 : ∀ w : gd_D, fr fM v w → rU w T n (pLine T n p u) → wp_X11_line_115 g d w Q := by
    intro w fw Uw
    have Pw : rP w T n (match pLine T n p u with
        | Sum.inl e => Sum.inl e
        | Sum.inr q => Sum.inr q.1) := by
      cases hx : pLine T n p u with
      | inl e => rw [hx] at Uw; exact Uw
      | inr q => rw [hx] at Uw; exact Uw.1
    refine r_needs (by decide) (by decide) (by decide) (Nat.le_refl 4) Pw (fun w2 f2 P2 => ?_)
    rw [gd_rV_at]
    refine hQ w2 (fw.tr (f2.wk fD_M)) ?_
    unfold pLn
    cases hx : pLine T n p u with
    | inl e => rw [hx] at P2; exact P2
    | inr q =>
      rw [hx] at P2 Uw
      have P2 : rP w2 T n (yG T n 59 q.1) := P2
      show rU w2 T n (match yG T n 59 q.1 with
        | Sum.inl e => Sum.inl e
        | Sum.inr q' => Sum.inr (q', q.2))
      cases hy : yG T n 59 q.1 with
      | inl e => rw [hy] at P2; exact P2
      | inr q' => rw [hy] at P2; exact ⟨P2, Uw.2.1.J f2, Uw.2.2.D f2⟩
  refine c_X11_line hd (r_isHere (i := 0) (by omega) (Nat.le_refl 7) hP (fun v1 f1 E1 => ?_))
  rw [gd_rI_at]
  have r1 := hr.J (f1.wk fD1_D)
  have c1 := hc.D (f1.wk fD1_D)
  refine ⟨fun z0 => ?_, fun z0 => ?_⟩
  rotate_left
  · have hw := of_decide_eq_true (b2_1 z0)
    refine r_dealerRead (Nat.le_refl 4) E1 hw r1 c1 hu (fun v2 f2 U2 => ?_)
    rw [gd_rV_at]
    exact e115 v2 ((f1.wk fD1_M).tr f2) (by rw [show pLine T n p u = pDeal T n p u from if_pos hw]; exact U2)
  have w0 := of_decide_eq_false (b2_0 z0)
  refine r_isHere (i := 1) (by omega) (Nat.le_refl 7) E1.P (fun v2 f2 E2 => ?_)
  rw [gd_rI_at]
  have r2 := r1.J (f2.wk fD1_D)
  have c2 := c1.D (f2.wk fD1_D)
  refine ⟨fun z1 => ?_, fun z1 => ?_⟩
  rotate_left
  · have hw := of_decide_eq_true (b2_1 z1)
    refine r_saleRead (Nat.le_refl 4) E2 hw r2 c2 hu (fun v3 f3 U3 => ?_)
    rw [gd_rV_at]
    exact e115 v3 (((f1.tr f2).wk fD1_M).tr f3) (by rw [show pLine T n p u = pSale T n p u from by unfold pLine; rw [if_neg w0, if_pos hw]]; exact U3)
  have w1 := of_decide_eq_false (b2_0 z1)
  refine r_isHere (i := 6) (by omega) (Nat.le_refl 7) E2.P (fun v3 f3 E3 => ?_)
  rw [gd_rI_at]
  have r3 := r2.J (f3.wk fD1_D)
  have c3 := c2.D (f3.wk fD1_D)
  have F3 : fr fD1 v v3 := (f1.tr f2).tr f3
  refine ⟨fun z6 => ?_, fun z6 => ?_⟩
  rotate_left
  · have hw := of_decide_eq_true (b2_1 z6)
    refine r_ruleRead (Nat.le_refl 41) E3 hw r3 c3 hu (fun v4 f4 U4 => ?_)
    rw [gd_rV_at]
    exact e115 v4 ((F3.wk fD1_M).tr f4) (by rw [show pLine T n p u = pRule T n p u from by unfold pLine; rw [if_neg w0, if_neg w1, if_neg (by omega), if_neg (by omega), if_neg (by omega), if_neg (by omega), if_pos hw]]; exact U4)
  have w6 := of_decide_eq_false (b2_0 z6)
  refine r_isOnce (i := 2) (j := 4) (lo := 0) (hN := 999) (by omega) (by omega) (by omega) (by omega) (by omega) (Nat.le_refl 8) E3.P r3 c3 hu (fun v4 w2 f4 E4 => ?_) (fun v4 hw f4 U4 => ?_)
  rotate_left
  · exact ⟨fun _ => e115 v4 ((F3.wk fD1_M).tr f4) (by rw [show pLine T n p u = pOne T n 4 0 1000 p u from by unfold pLine; rw [if_neg w0, if_neg w1, if_pos hw]]; exact U4), fun q => absurd q (by decide)⟩
  refine ⟨fun q => absurd rfl q, fun _ => ?_⟩
  have r4 := r3.J f4
  have c4 := c3.D f4
  have F4 : fr fM v v4 := (F3.wk fD1_M).tr (f4.wk fD_M)
  refine r_isOnce (i := 3) (j := 5) (lo := 1) (hN := 100) (by omega) (by omega) (by omega) (by omega) (by omega) (Nat.le_refl 8) E4.P r4 c4 hu (fun v5 w3 f5 E5 => ?_) (fun v5 hw f5 U5 => ?_)
  rotate_left
  · exact ⟨fun _ => e115 v5 (F4.tr f5) (by rw [show pLine T n p u = pOne T n 5 1 101 p u from by unfold pLine; rw [if_neg w0, if_neg w1, if_neg w2, if_pos hw]]; exact U5), fun q => absurd q (by decide)⟩
  refine ⟨fun q => absurd rfl q, fun _ => ?_⟩
  have r5 := r4.J f5
  have c5 := c4.D f5
  have F5 : fr fM v v5 := F4.tr (f5.wk fD_M)
  refine r_isOnce (i := 4) (j := 6) (lo := 0) (hN := 30) (by omega) (by omega) (by omega) (by omega) (by omega) (Nat.le_refl 8) E5.P r5 c5 hu (fun v6 w4 f6 E6 => ?_) (fun v6 hw f6 U6 => ?_)
  rotate_left
  · exact ⟨fun _ => e115 v6 (F5.tr f6) (by rw [show pLine T n p u = pOne T n 6 0 31 p u from by unfold pLine; rw [if_neg w0, if_neg w1, if_neg w2, if_neg w3, if_pos hw]]; exact U6), fun q => absurd q (by decide)⟩
  refine ⟨fun q => absurd rfl q, fun _ => ?_⟩
  have r6 := r5.J f6
  have c6 := c5.D f6
  have F6 : fr fM v v6 := F5.tr (f6.wk fD_M)
  refine r_isOnce (i := 5) (j := 3) (lo := 1) (hN := 10000) (by omega) (by omega) (by omega) (by omega) (by omega) (Nat.le_refl 8) E6.P r6 c6 hu (fun v7 w5 f7 E7 => ?_) (fun v7 hw f7 U7 => ?_)
  rotate_left
  · exact ⟨fun _ => e115 v7 (F6.tr f7) (by rw [show pLine T n p u = pOne T n 3 1 10001 p u from by unfold pLine; rw [if_neg w0, if_neg w1, if_neg w2, if_neg w3, if_neg w4, if_pos hw]]; exact U7), fun q => absurd q (by decide)⟩
  refine ⟨fun q => absurd rfl q, fun _ => ?_⟩
  obtain ⟨t7, hh7, hf7, hst7⟩ := id E7
  rw [hh7]
  refine r_wrong (w := 1) (by omega) (by omega) E7.P (fun v8 f8 _ _ P8 => ?_)
  rw [gd_rV_at]
  refine e115 v8 ((F6.tr (f7.wk fD_M)).tr (f8.wk fD_M)) ?_
  rw [show pLine T n p u = Sum.inl (1, p) from pLine_no (by omega)]
  exact P8
end RLQ
