/-! TEXT, the class's side: lines -/
def ln (j : Nat) : Nat := if j = 3 then 6 else if j = 7 then 7 else j - 1
theorem ln_inj : ∀ x, x < 8 → ∀ j, j < 8 → 3 ≤ x → 3 ≤ j → (ln x = ln j ↔ x = j) := by decide +kernel
def kS (v : gd_D) (se : Nat → Bool) : Prop := ∀ j, 3 ≤ j → j ≤ 7 → bt (v.1 7 0 12) (ln j) = se j
/-- no code stands before the rule's line -/
def kZ (v : gd_D) (se : Nat → Bool) : Prop := se 7 = false → v.1 7 0 9 = 0
def kU (v : gd_D) (T : Nat → Int32) (n m : Nat) (x : rL) : Prop := match x with
  | Sum.inl e => kP v T n m (Sum.inl e)
  | Sum.inr q => kP v T n m (Sum.inr q.1) ∧ cr_R v 0 q.2.1 ∧ kS v q.2.2 ∧ kZ v q.2.2
def fO (k i j : Nat) : Prop := fA k i j ∨ (k = 7 ∧ i = 0 ∧ j = 12)
theorem fO_Q : ∀ k i j, fO k i j → fQ k i j ∨ (k = 7 ∧ i = 0 ∧ j = 12) := fun k i j q => q.imp (fA_Q k i j) id
theorem fA_O : ∀ k i j, fA k i j → fO k i j := fun _ _ _ q => Or.inl q
def XL (N k i j : Nat) : Prop := fQ k i j ∨ (k = 7 ∧ i = 0 ∧ j = 12) ∨ fh 0 k i j ∨ (k = 15 ∧ N ≤ i)
def frL (v v' : gd_D) : Prop := (∀ k i j, ¬ XL v.2.2.2.1 k i j → v'.1 k i j = v.1 k i j ∧ v'.2.1 k i j = v.2.1 k i j) ∧ (∀ x, ¬ x = 0 → v'.2.2.1 x = v.2.2.1 x) ∧ v.2.2.2.1 ≤ v'.2.2.2.1 ∧ (∀ i, i < v.2.2.2.1 → v'.2.2.2.2.1 i = v.2.2.2.2.1 i) ∧ v'.2.2.2.2.2 = v.2.2.2.2.2
theorem frL.rf {v : gd_D} : frL v v := ⟨fun _ _ _ _ => ⟨rfl, rfl⟩, fun _ _ => rfl, Nat.le_refl _, fun _ _ => rfl, rfl⟩
theorem frL.tr {v v1 v2 : gd_D} (h : frL v v1) (h2 : frL v1 v2) : frL v v2 := by
  refine ⟨fun k i j hx => ?_, fun x hx => (h2.2.1 x hx).trans (h.2.1 x hx), Nat.le_trans h.2.2.1 h2.2.2.1, fun i hi => (h2.2.2.2.1 i (Nat.lt_of_lt_of_le hi h.2.2.1)).trans (h.2.2.2.1 i hi), h2.2.2.2.2.trans h.2.2.2.2⟩
  have hx1 : ¬ XL v1.2.2.2.1 k i j := fun q => hx (by
    rcases q with q | q | q | q
    · exact Or.inl q
    · exact Or.inr (Or.inl q)
    · exact Or.inr (Or.inr (Or.inl q))
    · exact Or.inr (Or.inr (Or.inr ⟨q.1, Nat.le_trans h.2.2.1 q.2⟩)))
  exact ⟨(h2.1 k i j hx1).1.trans (h.1 k i j hx).1, (h2.1 k i j hx1).2.trans (h.1 k i j hx).2⟩
theorem fr.L {X : Nat → Nat → Nat → Prop} {v v' : gd_D} (h : fr X v v') (hX : ∀ k i j, X k i j → fQ k i j ∨ (k = 7 ∧ i = 0 ∧ j = 12) ∨ fh 0 k i j) : frL v v' := ⟨fun k i j hx => h.1 k i j (fun q => hx (by
    rcases hX k i j q with q | q | q
    · exact Or.inl q
    · exact Or.inr (Or.inl q)
    · exact Or.inr (Or.inr (Or.inl q)))), fun x _ => by rw [h.2], by rw [h.2]; exact Nat.le_refl _, fun i _ => by rw [h.2], by rw [h.2]⟩
theorem fQ_no {k i j : Nat} (h : ¬ k = 7) (h2 : ¬ k = 35) : ¬ fQ k i j := fun q => by
  rcases q with q | q | q
  · exact h q.1
  · exact h q.1
  · exact h2 q.1
section KL
variable {g : ab_E} {d : Nat} {v : gd_D} {Q : ab_O → gd_D → Prop} {T : Nat → Int32} {n m : Nat} {H : hs_T} {h : Nat}
theorem cr_R.fq {v' : gd_D} (hR : cr_R v h H) (hW : hs_W H) (hf : fr fQ v v') : cr_R v' h H := hR.far hW hf (fun _ _ => fQ_no (by decide) (by decide)) (fun _ _ => fQ_no (by decide) (by decide)) (fun _ _ => fQ_no (by decide) (by decide)) (fun _ _ => fQ_no (by decide) (by decide))
theorem fA_L {v' : gd_D} (hf : fr fA v v') : frL v v' := hf.L (fun k i j q => Or.inl (fA_Q k i j q))
theorem kS.A {v' : gd_D} {se : Nat → Bool} (hs : kS v se) (hf : fr fQ v v') : kS v' se := fun j h3 h7 => by
  rw [(hf.1 7 0 12 (fun q => by
    rcases q with q | q | q
    · have := q.2.2; omega
    · have := q.2.2; omega
    · exact absurd q.1 (by decide))).1]
  exact hs j h3 h7
theorem kZ.A {v' : gd_D} {se : Nat → Bool} (hs : kZ v se) (hf : fr fA v v') : kZ v' se := fun h => ((hf.1 7 0 9 (fun q => by have := q.2.2; omega)).1).trans (hs h)
theorem kZ.O {v' : gd_D} {se : Nat → Bool} {x : Nat} (hx : ¬ x = 7) (hs : kZ v se) (hf : fr fO v v') : kZ v' (su se x) := fun h => ((hf.1 7 0 9 (fun q => by
  rcases q with q | q
  · have := q.2.2; omega
  · exact absurd q.2.2 (by decide))).1).trans (hs ((su_ne (fun q => hx q.symm)).symm.trans h))
theorem kZ.hh {X : Nat → Nat → Nat → Prop} {v' : gd_D} {se : Nat → Bool} (hs : kZ v se) (hf : fr X v v') (hX : ∀ k i j, X k i j → k = 0 ∨ k = 2 ∨ k = 9) : kZ v' se := fun h => ((hf.1 7 0 9 (fun q => by rcases hX 7 0 9 q with q | q | q <;> omega)).1).trans (hs h)
/-- the house changes alone -/
theorem kP.hh {X : Nat → Nat → Nat → Prop} {v' : gd_D} {y : rY} (hP : kP v T n m y) (hf : fr X v v') (hX : ∀ k i j, X k i j → k = 0 ∨ k = 2 ∨ k = 9) : kP v' T n m y := by
  have no : ∀ k i j, ¬ k = 0 → ¬ k = 2 → ¬ k = 9 → ¬ X k i j := fun k i j h0 h2 h9 q => by rcases hX k i j q with q | q | q <;> omega
  obtain ⟨ht, k, hk, hk2, h3⟩ := hP
  have e7 : v'.1 7 0 = v.1 7 0 := hf.I (fun j => no 7 0 j (by decide) (by decide) (by decide))
  refine ⟨ht.k hf (fun j => ⟨no 32 0 j (by decide) (by decide) (by decide), no 33 0 j (by decide) (by decide) (by decide), no 34 0 j (by decide) (by decide) (by decide)⟩) (no 7 0 10 (by decide) (by decide) (by decide)), k, hk, by rw [e7]; exact hk2, ?_⟩
  cases y with
  | inl e =>
    show 1 ≤ e.1 ∧ e.1 ≤ 4 ∧ v'.1 7 0 3 = nI e.1 ∧ v'.1 7 0 4 = nI e.2
    rw [e7]; exact h3
  | inr p =>
    show v'.1 7 0 3 = 0 ∧ v'.1 7 0 4 = -1 ∧ PS T n k = p
    rw [e7]; exact h3
theorem kS.hh {X : Nat → Nat → Nat → Prop} {v' : gd_D} {se : Nat → Bool} (hs : kS v se) (hf : fr X v v') (hX : ∀ k i j, X k i j → k = 0 ∨ k = 2 ∨ k = 9) : kS v' se := fun j h3 h7 => by
  rw [hf.I (k := 7) (i := 0) (fun j q => by rcases hX 7 0 j q with q | q | q <;> omega)]
  exact hs j h3 h7
theorem fh_k : ∀ k i j, fh h k i j → k = 0 ∨ k = 2 ∨ k = 9 := fun k i j q => by rcases q with q | q | q <;> omega
theorem k_takeOnce {j p : Nat} {se : Nat → Bool} (hd : 3 ≤ d) (h3 : 3 ≤ j) (h7 : j ≤ 7) (hP : kP v T n m (Sum.inr p)) (hlt : p < n) (hs : kS v se) (h1 : ∀ v', se j = true → fr fA v v' → kP v' T n m (Sum.inl (1, p)) → Q (Sum.inl none) v') (h0 : ∀ v', se j = false → fr fO v v' → kP v' T n m (Sum.inr (nx T n p)) → kS v' (su se j) → Q (Sum.inl none) v') : gd_C g mX7_takeOnce d 0 0 [zR 7 0, zI (nI (ln j))] v Q := by
  have hln : ln j < 32 := by unfold ln; split <;> (try split) <;> omega
  refine c_X7_takeOnce hd ?_
  unfold wp_X7_takeOnce
  rw [bt_test hln, hs j h3 h7]
  refine ⟨fun z => ?_, fun z => ?_⟩
  · rintro _ rfl
    have f1 : fr (fun k i j => fQ k i j ∨ (k = 7 ∧ i = 0 ∧ j = 12)) v (gd_sI v 7 0 12 (v.1 7 0 12 ||| (1 <<< (nI (ln j) &&& 31)))) := fr.sI (Or.inr ⟨rfl, rfl, rfl⟩)
    have P1 : kP (gd_sI v 7 0 12 (v.1 7 0 12 ||| (1 <<< (nI (ln j) &&& 31)))) T n m (Sum.inr p) := by
      obtain ⟨ht, k, hk, hk2, e3, e4, e5⟩ := hP
      refine ⟨ht.k f1 (fun j => ⟨?_, ?_, ?_⟩) ?_, k, hk, by rw [sI_ne (by omega)]; exact hk2, by rw [sI_ne (by omega)]; exact e3, by rw [sI_ne (by omega)]; exact e4, e5⟩
      · intro q; rcases q with q | q
        · exact fQ_no (by decide) (by decide) q
        · exact absurd q.1 (by decide)
      · intro q; rcases q with q | q
        · exact fQ_no (by decide) (by decide) q
        · exact absurd q.1 (by decide)
      · intro q; rcases q with q | q
        · exact fQ_no (by decide) (by decide) q
        · exact absurd q.1 (by decide)
      · intro q; rcases q with q | q
        · rcases q with q | q | q
          · have := q.2.2; omega
          · exact absurd q.2.2 (by decide)
          · exact absurd q.1 (by decide)
        · exact absurd q.2.2 (by decide)
    refine k_advance P1 (fun q e => by cases e; exact hlt) (fun v2 f2 P2 => ?_)
    rw [gd_rV_at]
    have f1o : fr fO v (gd_sI v 7 0 12 (v.1 7 0 12 ||| (1 <<< (nI (ln j) &&& 31)))) := fr.sI (Or.inr ⟨rfl, rfl, rfl⟩)
    refine h0 v2 z (f1o.tr (f2.wk fA_O)) P2 (fun x x3 x7 => ?_)
    rw [(f2.1 7 0 12 (fun q => by have := q.2.2; omega)).1, sI_at, bt_or, hs x x3 x7, bt_one (ln j) hln (ln x) (by unfold ln; split <;> (try split) <;> omega)]
    unfold su
    have : (ln x = ln j) ↔ x = j := ln_inj x (by omega) j (by omega) x3 h3
    rw [Bool.or_comm]
    congr 1
    exact decide_eq_decide.mpr this
  · have z : se j = true := by
      cases e : se j with
      | true => rfl
      | false => exact absurd e z
    exact k_refuse (w := 1) (by omega) (by omega) hP (fun v1 f1 P1 => h1 v1 z f1 P1)
theorem k_readOnce {j p lo hx : Nat} {hi : Int32} {u : uT} (hd : 4 ≤ d) (h3 : 3 ≤ j) (h7 : j ≤ 7) (hlo : lo ≤ 1) (hhi : hi.toInt = (hx : Int) - 1) (hP : kP v T n m (Sum.inr p)) (hlt : p < n) (hs : kS v u.2) (h0 : ∀ v' e, pOne T n j lo hx p u = Sum.inl e → fr fO v v' → kP v' T n m (Sum.inl e) → Q (Sum.inl (some (zI (-1)))) v') (h1 : ∀ v' w q, pOne T n j lo hx p u = Sum.inr (q, (hsH u.1 j w, su u.2 j)) → fr fO v v' → kP v' T n m (Sum.inr q) → kS v' (su u.2 j) → Q (Sum.inl (some (zI (nI w)))) v') : gd_C g mX7_readOnce d 0 0 [zR 7 0, zI (nI (ln j)), zI (nI lo), zI hi] v Q := by
  refine c_X7_readOnce hd (k_takeOnce (Nat.le_refl 3) h3 h7 hP hlt hs (fun v1 z f1 P1 => ?_) (fun v1 z f1 P1 S1 => ?_))
  · rw [gd_rV_at]
    refine k_takeNumber (a := lo) (hx := hx) (o := none) hlo hhi (fun z h => by cases h) (Nat.le_refl 3) P1 (fun p h => by cases h) (fun v2 e he f2 P2 => ?_) (fun v2 w q he f2 P2 => by cases he)
    rw [gd_rI_at]
    cases he
    refine h0 v2 (1, p) ?_ ((f1.wk fA_O).tr (f2.wk fA_O)) P2
    unfold pOne; rw [z, if_pos rfl]
  · rw [gd_rV_at]
    refine k_takeNumber (a := lo) (hx := hx) (o := none) hlo hhi (fun z h => by cases h) (Nat.le_refl 3) P1 (fun p _ => rfl) (fun v2 e he f2 P2 => ?_) (fun v2 w q he f2 P2 => ?_)
    · rw [gd_rI_at]
      refine h0 v2 e ?_ (f1.tr (f2.wk fA_O)) P2
      unfold pOne
      have he : pNum T n lo hx none (nx T n p) = Sum.inl e := he
      rw [z, if_neg Bool.false_ne_true, he]; rfl
    · rw [gd_rI_at]
      have he : pNum T n lo hx none (nx T n p) = Sum.inr (w, q) := he
      refine h1 v2 w q ?_ (f1.tr (f2.wk fA_O)) P2 (S1.A (f2.wk fA_Q))
      unfold pOne
      rw [z, if_neg Bool.false_ne_true, he]; rfl
theorem k_addDealer {s : Nat} (hd : 3 ≤ d) (hR : cr_R v h H) (h8 : Hh H 0 < 8) (h24 : Hh H 1 ≤ 24) (hQ : ∀ v', fr (fh h) v v' → cr_R v' h (h_addd H s) → Q (Sum.inl none) v') : gd_C g mX2_addDealer d 0 0 [zR 2 h, zI (nI s)] v Q := by
  have e2 : v.1 2 h 2 = nI (Hh H 0) := hR.1 0 (by omega)
  refine c_X2_addDealer hd (pk_le 8 (Hh H 0) (fun q => absurd q (by omega)) (fun _ => ?_) rfl e2 (by omega) (by omega))
  rw [e2, nI_clamp (by omega)]
  refine ⟨nu_in h8 (by omega), c_X0_start (Nat.zero_le _) ?_⟩
  rintro _ rfl _ rfl _ rfl _ rfl _ rfl _ rfl
  rw [gd_rV_at]
  intro v7 h7
  have X0 : ∀ j, fh h 0 (8 * h + Hh H 0) j := fun j => fh0 (by omega)
  have f7 : fr (fh h) v v7 := by
    rw [h7]
    exact ((((((fr.sI (X0 0)).tr (fr.sJ (X0 1))).tr (fr.sJ (X0 2))).tr (fr.sJ (X0 3))).tr (fr.sJ (X0 4))).tr (fr.sI (X0 5))).tr (fr.sI fh2)
  have eI : ∀ k i j, ¬ (k = 0 ∧ i = 8 * h + Hh H 0) → ¬ (k = 2 ∧ i = h ∧ j = 2) → v7.1 k i j = v.1 k i j := by
    intro k i j q1 q2
    rw [h7, sI_ne (by omega), sI_ne (by omega)]
    show (gd_sI v 0 (8 * h + Hh H 0) 0 (nI s)).1 k i j = _
    rw [sI_ne (by omega)]
  have eJ : ∀ k i j, ¬ (k = 0 ∧ i = 8 * h + Hh H 0) → v7.2.1 k i j = v.2.1 k i j := by
    intro k i j q1
    rw [h7]
    show (gd_sJ (gd_sJ (gd_sJ (gd_sJ (gd_sI v 0 (8 * h + Hh H 0) 0 (nI s)) 0 (8 * h + Hh H 0) 1 0) 0 (8 * h + Hh H 0) 2 0) 0 (8 * h + Hh H 0) 3 0) 0 (8 * h + Hh H 0) 4 0).2.1 k i j = _
    rw [sJ_ne (by omega), sJ_ne (by omega), sJ_ne (by omega), sJ_ne (by omega)]
    rfl
  have i0 : v7.1 0 (8 * h + Hh H 0) 0 = nI s := by
    rw [h7, sI_ne (by omega), sI_ne (by omega)]
    show (gd_sI v 0 (8 * h + Hh H 0) 0 (nI s)).1 0 (8 * h + Hh H 0) 0 = _
    rw [sI_at]
  have i5 : v7.1 0 (8 * h + Hh H 0) 5 = nI 0 := by
    rw [h7, sI_ne (by omega), sI_at]; rfl
  have jj : ∀ j, 1 ≤ j → j ≤ 4 → v7.2.1 0 (8 * h + Hh H 0) j = 0 := by
    intro j j1 j4
    rw [h7]
    show (gd_sJ (gd_sJ (gd_sJ (gd_sJ (gd_sI v 0 (8 * h + Hh H 0) 0 (nI s)) 0 (8 * h + Hh H 0) 1 0) 0 (8 * h + Hh H 0) 2 0) 0 (8 * h + Hh H 0) 3 0) 0 (8 * h + Hh H 0) 4 0).2.1 0 (8 * h + Hh H 0) j = _
    have hc : j = 1 ∨ j = 2 ∨ j = 3 ∨ j = 4 := by omega
    rcases hc with q | q | q | q <;> subst q <;> (repeat (first | rw [sJ_at] | rw [sJ_ne (by omega)]))
  have e22 : v7.2.2 = v.2.2 := by rw [h7]; rfl
  have i2 : v7.1 2 h 2 = nI (Hh H 0 + 1) := by
    rw [h7, sI_at, sI_ne (by omega)]
    show (gd_sI v 0 (8 * h + Hh H 0) 0 (nI s)).1 2 h 2 + 1 = _
    rw [sI_ne (by omega), e2, nu_1]
  refine hQ v7 f7 ?_
  obtain ⟨a1, a2, a3, a4, a5, a6, a7⟩ := hR
  refine ⟨fun j hj => ?_, by rw [eJ 2 h 9 (by omega)]; exact a2, fun i hi => ?_, fun i hi j hj => ?_, by rw [e22]; exact a5, by rw [e22]; exact a6, fun k hk => ?_⟩
  · by_cases q : j = 0
    · subst q; exact i2
    · rw [eI 2 h (j + 2) (by omega) (by omega), a1 j hj]
      show _ = nI (if j = 0 then _ else H.1 j)
      rw [if_neg q]
  · have hi : i < Hh H 0 + 1 := hi
    by_cases q : i = Hh H 0
    · subst q
      refine ⟨?_, ?_, fun j j1 j4 => ?_⟩
      · rw [i0]; show _ = nI (if Hh H 0 = Hh H 0 then (if 0 = 0 then s else 0) else _); rw [if_pos rfl, if_pos rfl]
      · rw [i5]; show _ = nI (if Hh H 0 = Hh H 0 then (if 5 = 0 then s else 0) else _); rw [if_pos rfl, if_neg (by omega)]
      · rw [jj j j1 j4]; show _ = if Hh H 0 = Hh H 0 then 0 else _; rw [if_pos rfl]
    · have ea := a3 i (by omega)
      refine ⟨?_, ?_, fun j j1 j4 => ?_⟩
      · rw [eI 0 _ 0 (by omega) (by omega), ea.1]; show _ = nI (if i = Hh H 0 then _ else _); rw [if_neg q]
      · rw [eI 0 _ 5 (by omega) (by omega), ea.2.1]; show _ = nI (if i = Hh H 0 then _ else _); rw [if_neg q]
      · rw [eJ 0 _ j (by omega), ea.2.2 j j1 j4]; show _ = if i = Hh H 0 then 0 else _; rw [if_neg q]
  · rw [eI 9 _ _ (by omega) (by omega)]; exact a4 i hi j hj
  · rw [e22, eI 15 _ _ (by omega) (by omega)]; exact a7 k hk
theorem k_empty (hnc : 0 < v.2.2.2.1) (hl0 : v.2.2.2.2.1 0 = 0) (hQ : ∀ v', frC (fh h) h v v' → cr_R v' h h_0 → Q (Sum.inl none) v') : gd_C g mX2_empty d 0 0 [zR 2 h] v Q := by
  refine c_X2_empty (Nat.zero_le _) ?_
  rintro _ rfl _ rfl _ rfl _ rfl _ rfl _ rfl _ rfl _ rfl
  refine ⟨hnc, ?_⟩
  intro v9 h9
  have i9 : ∀ k i j, v9.1 k i j = (gd_sI (gd_sI (gd_sI (gd_sI (gd_sI (gd_sI (gd_sI v 2 h 2 0) 2 h 3 0) 2 h 4 0) 2 h 5 100) 2 h 6 0) 2 h 7 1) 2 h 8 4).1 k i j := fun k i j => by rw [h9]; rfl
  have j9 : ∀ k i j, v9.2.1 k i j = if k = 2 ∧ i = h ∧ j = 9 then 0 else v.2.1 k i j := fun k i j => by rw [h9]; rfl
  have c9 : ∀ x, v9.2.2.1 x = if x = h then 0 else v.2.2.1 x := fun x => by rw [h9]; rfl
  have r9 : v9.2.2.2 = v.2.2.2 := by rw [h9]; rfl
  refine hQ v9 ⟨fun k i j hx => ?_, r9, fun x hx => by rw [c9, if_neg hx]⟩ ?_
  · have hne : ¬ (k = 2 ∧ i = h) := fun q => hx (Or.inl q)
    refine ⟨?_, by rw [j9, if_neg (fun q => hne ⟨q.1, q.2.1⟩)]⟩
    rw [i9]
    repeat rw [sI_ne (by omega)]
  · refine ⟨fun j hj => ?_, ?_, fun i hi => absurd hi (by show ¬ i < 0; omega), fun i hi => absurd hi (by show ¬ i < 0; omega), ?_, ?_, fun k hk => absurd hk (by show ¬ k < 0; omega)⟩
    · rw [i9]
      have hc : j = 0 ∨ j = 1 ∨ j = 2 ∨ j = 3 ∨ j = 4 ∨ j = 5 ∨ j = 6 := by omega
      rcases hc with q | q | q | q | q | q | q <;> subst q <;> (repeat (first | rw [sI_at] | rw [sI_ne (by omega)])) <;> rfl
    · rw [j9, if_pos ⟨rfl, rfl, rfl⟩]; rfl
    · rw [c9, if_pos rfl, r9]; exact hnc
    · rw [c9, if_pos rfl, r9, hl0]; rfl
end KL
