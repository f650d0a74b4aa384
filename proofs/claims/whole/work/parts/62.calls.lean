/-! THE CALLS: without, sale -/
def sf (a b u p t : Nat) (j : Nat) : Nat := if j = 0 then a else if j = 1 then b else if j = 2 then u else if j = 3 then p else if j = 4 then t else if j = 5 then u else 0
/-- a sale comes -/
def h_adds (H : hs_T) (a b u p t : Nat) : hs_T := (fun j => if j = 1 then Hh H 1 + 1 else H.1 j, H.2.1, H.2.2.1, fun i j => if i = Hh H 1 then sf a b u p t j else H.2.2.2.1 i j, H.2.2.2.2)
theorem h_adds_used {H : hs_T} {a b u p t : Nat} : ∀ n, n ≤ Hh H 1 → hs_used (h_adds H a b u p t) n = hs_used H n
  | 0, _ => rfl
  | n + 1, h => by
    have ih := h_adds_used (H := H) (a := a) (b := b) (u := u) (p := p) (t := t) n (by omega)
    have e : ∀ j, Hs (h_adds H a b u p t) n j = Hs H n j := fun j => if_neg (by omega)
    show hs_used (h_adds H a b u p t) n + (Hs (h_adds H a b u p t) n 2 - Hs (h_adds H a b u p t) n 5) = hs_used H n + _
    rw [ih, e, e]
theorem h_adds_W {H : hs_T} {a b u p t : Nat} (hW : hs_W H) (hN : Hh H 1 < 24) (ha : a < Hh H 0) (hb : b < Hh H 0) (hab : ¬ a = b) (hu : 1 ≤ u ∧ u ≤ 1000) (hp : 1 ≤ p ∧ p ≤ 10000) (ht : t ≤ 999) : hs_W (h_adds H a b u p t) := by
  obtain ⟨a0, a1, a2, a3, a4, a5, a6, a7, a8, a9⟩ := hW
  have e : ∀ j, ¬ j = 1 → Hh (h_adds H a b u p t) j = Hh H j := fun j hj => if_neg hj
  have e1 : Hh (h_adds H a b u p t) 1 = Hh H 1 + 1 := rfl
  have eN : ∀ j, Hs (h_adds H a b u p t) (Hh H 1) j = sf a b u p t j := fun j => if_pos rfl
  have eo : ∀ i j, ¬ i = Hh H 1 → Hs (h_adds H a b u p t) i j = Hs H i j := fun i j hi => if_neg hi
  have eu : hs_used (h_adds H a b u p t) (Hh H 1 + 1) = hs_used H (Hh H 1) := by
    show hs_used (h_adds H a b u p t) (Hh H 1) + (Hs (h_adds H a b u p t) (Hh H 1) 2 - Hs (h_adds H a b u p t) (Hh H 1) 5) = _
    rw [eN, eN, h_adds_used _ (Nat.le_refl _)]
    show _ + (u - u) = _
    omega
  refine ⟨by rw [e 0 (by omega)]; exact a0, by rw [e1]; omega, by rw [e 2 (by omega)]; exact a2, by rw [e 3 (by omega)]; exact a3, by rw [e 4 (by omega)]; exact a4, by rw [e 5 (by omega)]; exact a5, by rw [e 6 (by omega)]; exact a6, fun i hi => ?_, fun i hi => ?_, a9⟩
  · rw [e 0 (by omega)] at hi
    rw [e1, eu]; exact a7 i hi
  · rw [e1] at hi
    unfold hs_S
    rw [e 0 (by omega)]
    by_cases q : i = Hh H 1
    · subst q
      simp only [eN]
      refine ⟨ha, hb, hab, hu, hp, ht, ?_⟩
      show u + 0 + 0 + 0 ≤ u
      omega
    · simp only [eo i _ q]
      exact a8 i (by omega)
section CSL
variable {g : ab_E} {d : Nat} {v : gd_D} {Q : ab_O → gd_D → Prop} {S : gs_T} {H : hs_T} {h : Nat}
theorem k_addSale {a b u p t : Nat} (hR : cr_R v h H) (hN : Hh H 1 < 24) (h8 : Hh H 0 ≤ 8) (hQ : ∀ v', fr (fh h) v v' → cr_R v' h (h_adds H a b u p t) → Q (Sum.inl none) v') : gd_C g mX2_addSale d 0 0 [zR 2 h, zI (nI a), zI (nI b), zI (nI u), zI (nI p), zI (nI t)] v Q := by
  have e3 : v.1 2 h 3 = nI (Hh H 1) := hR.1 1 (by omega)
  refine c_X2_addSale (Nat.zero_le _) (pk_lt (Hh H 1) 24 (fun _ => ?_) (fun q => absurd q (by omega)) e3 rfl (by omega) (by omega))
  rw [e3, nI_clamp (by omega)]
  refine ⟨nu_in hN (by omega), ?_⟩
  rintro _ rfl _ rfl _ rfl _ rfl _ rfl _ rfl _ rfl _ rfl _ rfl v10 h10
  have X9 : ∀ j, fh h 9 (24 * h + Hh H 1) j := fun j => fh9 (by omega)
  have f10 : fr (fh h) v v10 := by
    rw [h10]
    exact (((((((((fr.sI (X9 0)).tr (fr.sI (X9 1))).tr (fr.sI (X9 2))).tr (fr.sI (X9 3))).tr (fr.sI (X9 4))).tr (fr.sI (X9 5))).tr (fr.sI (X9 6))).tr (fr.sI (X9 7))).tr (fr.sI (X9 8))).tr (fr.sI fh2)
  have eX : ∀ k i j, ¬ (k = 9 ∧ i = 24 * h + Hh H 1) → ¬ (k = 2 ∧ i = h ∧ j = 3) → v10.1 k i j = v.1 k i j := by
    intro k i j q1 q2
    rw [h10]
    repeat rw [sI_ne (by omega)]
  have e9 : ∀ j, j < 9 → v10.1 9 (24 * h + Hh H 1) j = nI (sf a b u p t j) := by
    intro j hj
    rw [h10]
    have hc : j = 0 ∨ j = 1 ∨ j = 2 ∨ j = 3 ∨ j = 4 ∨ j = 5 ∨ j = 6 ∨ j = 7 ∨ j = 8 := by omega
    rcases hc with q | q | q | q | q | q | q | q | q <;> subst q <;> (repeat (first | rw [sI_at] | rw [sI_ne (by omega)])) <;> rfl
  have e2 : v10.1 2 h 3 = nI (Hh H 1 + 1) := by
    rw [h10, sI_at]
    repeat rw [sI_ne (by omega)]
    rw [e3, nu_1]
  refine hQ v10 f10 ?_
  have e22 : v10.2 = v.2 := by rw [h10]; rfl
  obtain ⟨a1, a2, a3, a4, a5, a6, a7⟩ := hR
  refine ⟨fun j hj => ?_, by rw [e22]; exact a2, fun i hi => ?_, fun i hi j hj => ?_, by rw [e22]; exact a5, by rw [e22]; exact a6, fun k hk => ?_⟩
  · by_cases q : j = 1
    · subst q; exact e2
    · rw [eX 2 h (j + 2) (by omega) (by omega), a1 j hj]
      show _ = nI (if j = 1 then _ else H.1 j)
      rw [if_neg q]
  · rw [eX 0 _ _ (by omega) (by omega), eX 0 _ _ (by omega) (by omega), e22]
    exact a3 i hi
  · have hi : i < Hh H 1 + 1 := hi
    by_cases q : i = Hh H 1
    · subst q
      rw [e9 j hj]
      show _ = nI (if Hh H 1 = Hh H 1 then _ else _)
      rw [if_pos rfl]
    · rw [eX 9 _ _ (by omega) (by omega), a4 i (by omega) j hj]
      show _ = nI (if i = Hh H 1 then _ else _)
      rw [if_neg q]
  · rw [e22, eX 15 _ _ (by omega) (by omega)]; exact a7 k hk
def gs_sale (S : gs_T) (a b u p t : Nat) : gs_T := (h_adds S.1 a b u p t, (gs_kept S).2)
def saD (S : gs_T) (x : Int32) : Prop := ∃ i, i < Hh S.1 0 ∧ x = nI i
def saO (x1 x2 x3 x4 x5 : Int32) : Prop := ¬ x1 = x2 ∧ (nI 1 ≤ x3 ∧ x3 ≤ nI 1000) ∧ (nI 1 ≤ x4 ∧ x4 ≤ nI 10000) ∧ (nI 0 ≤ x5 ∧ x5 ≤ nI 999)
theorem k_sale {x1 x2 x3 x4 x5 : Int32} (hd : 10 ≤ d) (hG : gc_R v S) (hS : gs_ok S) (h1 : ∀ a b u p t v', a < Hh S.1 0 → b < Hh S.1 0 → ¬ a = b → 1 ≤ u ∧ u ≤ 1000 → 1 ≤ p ∧ p ≤ 10000 → t ≤ 999 → x1 = nI a → x2 = nI b → x3 = nI u → x4 = nI p → x5 = nI t → Hh S.1 1 < 24 → fcl v v' → gc_R v' (gs_sale S a b u p t) → Q (Sum.inl (some (zI (nI (Hh S.1 1))))) v') (h0 : ¬ (saD S x1 ∧ saD S x2) → ∀ v', fcl v v' → gc_R v' (gs_no S 0) → Q (Sum.inr "java/util/NoSuchElementException") v') (h2 : saD S x1 → saD S x2 → ¬ saO x1 x2 x3 x4 x5 → ∀ v', fcl v v' → gc_R v' (gs_no S 1) → Q (Sum.inr "java/lang/IllegalArgumentException") v') (h3 : saD S x1 → saD S x2 → saO x1 x2 x3 x4 x5 → 24 ≤ Hh S.1 1 → ∀ v', fcl v v' → gc_R v' (gs_no S 2) → Q (Sum.inr "java/lang/IllegalStateException") v') : gd_C g mX10_sale d 7 42 [zR 10 0, zI x1, zI x2, zI x3, zI x4, zI x5] v Q := by
  have h8 := hS.1.1
  have h24 := hS.1.2.1
  refine c_X10_sale hd (k_needDealer (Nat.le_refl 9) hG hS (fun a ha ea => ?_) (fun q v' f G => h0 (fun z => by obtain ⟨i, hi, e⟩ := z.1; exact q i hi e) v' f G))
  rw [gd_rV_at]
  refine k_needDealer (Nat.le_refl 9) hG hS (fun b hb eb => ?_) (fun q v' f G => h0 (fun z => by obtain ⟨i, hi, e⟩ := z.2; exact q i hi e) v' f G)
  rw [gd_rV_at]
  have s1 : saD S x1 := ⟨a, ha, ea⟩
  have s2 : saD S x2 := ⟨b, hb, eb⟩
  refine ⟨fun hne => ?_, fun heq => k_unfit hG hS (fun v' f G => h2 s1 s2 (fun z => z.1 heq) v' f G)⟩
  refine k_needWithin (Nat.le_refl 9) hG hS (fun q1 q2 => ?_) (fun q v' f G => h2 s1 s2 (fun z => q z.2.1) v' f G)
  rw [gd_rV_at]
  refine k_needWithin (Nat.le_refl 9) hG hS (fun q3 q4 => ?_) (fun q v' f G => h2 s1 s2 (fun z => q z.2.2.1) v' f G)
  rw [gd_rV_at]
  refine k_needWithin (Nat.le_refl 9) hG hS (fun q5 q6 => ?_) (fun q v' f G => h2 s1 s2 (fun z => q z.2.2.2) v' f G)
  rw [gd_rV_at]
  have sO : saO x1 x2 x3 x4 x5 := ⟨hne, ⟨q1, q2⟩, ⟨q3, q4⟩, q5, q6⟩
  refine pk_lt (Hh S.1 1) 24 (fun hlt => ?_) (fun hge => k_untimely hG hS (fun v' f G => h3 s1 s2 sO hge v' f G)) (hG.1.1 1 (by omega)) rfl (by omega) (by omega)
  obtain ⟨u, u1, u2, eu⟩ := nu_rng (a := 1) (b := 1000) (by omega) (by omega) q1 q2
  obtain ⟨p, p1, p2, ep⟩ := nu_rng (a := 1) (b := 10000) (by omega) (by omega) q3 q4
  obtain ⟨t, -, t2, et⟩ := nu_rng (a := 0) (b := 999) (by omega) (by omega) q5 q6
  subst ea; subst eb; subst eu; subst ep; subst et
  refine k_keepG (Nat.le_refl 4) hG hS (fun v1 f1 G1 => ?_)
  rw [gd_rV_at]
  refine k_addSale G1.1 hlt h8 (fun v2 f2 R2 => ?_)
  rw [gd_rV_at, show v2.1 2 9 3 = nI (Hh S.1 1 + 1) from R2.1 1 (by omega), nI_pred]
  have f2' : frD fW pW v1 v2 := f2.W (fun k i j q => Or.inl q)
  exact h1 a b u p t v2 ha hb (fun e => hne (by rw [e])) ⟨u1, u2⟩ ⟨p1, p2⟩ t2 rfl rfl rfl rfl rfl hlt (f1.tr (fW_cl f2')) (gc_house G1 (gs_kept_ok hS) f2' R2)
theorem rm_adds {f f' : Nat → Int64} {a b u p t : Nat} (hR : rm_R f H) (hN : Hh H 1 < 24) (h8 : Hh H 0 ≤ 8) (h9 : ∀ j, j < 9 → f' (57 + 9 * Hh H 1 + j) = lN (sf a b u p t j)) (h1 : f' 1 = lN (Hh H 1 + 1)) (hX : ∀ q, ¬ q = 1 → ¬ (57 + 9 * Hh H 1 ≤ q ∧ q < 57 + 9 * Hh H 1 + 9) → f' q = f q) : rm_R f' (h_adds H a b u p t) := by
  obtain ⟨a1, a2, a3, a4, a5, a6⟩ := hR
  refine ⟨fun j hj => ?_, ?_, ?_, fun i hi => ?_, fun i hi j hj => ?_, fun k hk => ?_⟩
  · by_cases q : j = 1
    · subst q; exact h1
    · rw [hX j q (by omega), a1 j hj]
      show _ = lN (if j = 1 then _ else H.1 j)
      rw [if_neg q]
  · rw [hX 7 (by omega) (by omega)]; exact a2
  · rw [hX 8 (by omega) (by omega)]; exact a3
  · have hi : i < Hh H 0 := hi
    rw [hX _ (by omega) (by omega), hX _ (by omega) (by omega)]
    refine ⟨(a4 i hi).1, (a4 i hi).2.1, fun j j1 j2 => ?_⟩
    rw [hX _ (by omega) (by omega)]; exact (a4 i hi).2.2 j j1 j2
  · have hi : i < Hh H 1 + 1 := hi
    by_cases q : i = Hh H 1
    · subst q
      rw [h9 j hj]
      show _ = lN (if Hh H 1 = Hh H 1 then _ else _)
      rw [if_pos rfl]
    · rw [hX _ (by omega) (by omega), a5 i (by omega) j hj]
      show _ = lN (if i = Hh H 1 then _ else _)
      rw [if_neg q]
  · rw [hX _ (by omega) (by omega)]; exact a6 k hk
theorem rr_sale {x1 x2 x3 x4 x5 : Int32} (hd : 4 ≤ d) (hG : gr_R v S) (hS : gs_ok S) (h1 : ∀ a b u p t v', a < Hh S.1 0 → b < Hh S.1 0 → ¬ a = b → 1 ≤ u ∧ u ≤ 1000 → 1 ≤ p ∧ p ≤ 10000 → t ≤ 999 → x1 = nI a → x2 = nI b → x3 = nI u → x4 = nI p → x5 = nI t → Hh S.1 1 < 24 → fre v v' → v'.1 11 0 0 = 0 → gr_R v' (gs_sale S a b u p t) → Q (Sum.inl (some (zI (nI (Hh S.1 1))))) v') (h0 : ¬ (saD S x1 ∧ saD S x2) → ∀ v', fre v v' → v'.1 11 0 0 = 1 → gr_R v' (gs_no S 0) → Q (Sum.inl (some (zI 0))) v') (h2 : saD S x1 → saD S x2 → ¬ saO x1 x2 x3 x4 x5 → ∀ v', fre v v' → v'.1 11 0 0 = 2 → gr_R v' (gs_no S 1) → Q (Sum.inl (some (zI 0))) v') (h3 : saD S x1 → saD S x2 → saO x1 x2 x3 x4 x5 → 24 ≤ Hh S.1 1 → ∀ v', fre v v' → v'.1 11 0 0 = 3 → gr_R v' (gs_no S 2) → Q (Sum.inl (some (zI 0))) v') : gd_C g mX11_sale d 0 0 [zR 11 0, zI x1, zI x2, zI x3, zI x4, zI x5] v Q := by
  have h8 := hS.1.1
  have h24 := hS.1.2.1
  obtain ⟨b1, b2', b3⟩ := gr_begin hG
  have no0 : ¬ (saD S x1 ∧ saD S x2) → wp_X11_sale_27 g d x1 x2 x3 x4 x5 0 (gd_sI v 11 0 0 0) Q := by
    intro hn
    refine r_fine0 (k := 0) (by decide) (by decide) b3 ?_
    obtain ⟨n1, n2, n3⟩ := gr_no (c := 1) (k := 0) (by decide) b1
    exact ⟨fun z => absurd rfl z, fun _ => h0 hn _ (b2'.tr n2) n3 n1⟩
  refine c_X11_sale hd ?_
  rintro _ rfl
  refine r_isDealer (Nat.le_refl 3) b1.1 hS.1 (fun a ha ea => ?_) (fun hno => ⟨fun _ => no0 (fun z => by obtain ⟨i, hi, e⟩ := z.1; exact hno i hi e), fun z => absurd rfl z⟩)
  refine ⟨fun z => absurd z (by decide), fun _ => ?_⟩
  refine r_isDealer (Nat.le_refl 3) b1.1 hS.1 (fun b hb eb => ?_) (fun hno => ⟨fun _ => no0 (fun z => by obtain ⟨i, hi, e⟩ := z.2; exact hno i hi e), fun z => absurd rfl z⟩)
  refine ⟨fun z => absurd z (by decide), fun _ => ?_⟩
  have s1 : saD S x1 := ⟨a, ha, ea⟩
  have s2 : saD S x2 := ⟨b, hb, eb⟩
  have no1 : ¬ saO x1 x2 x3 x4 x5 → wp_X11_sale_85 g d x1 x2 x3 x4 x5 (gd_sI v 11 0 0 0) Q := by
    intro hn
    refine r_fine0 (k := 1) (by decide) (by decide) b3 ?_
    obtain ⟨n1, n2, n3⟩ := gr_no (c := 2) (k := 1) (by decide) b1
    exact ⟨fun _ => h2 s1 s2 hn _ (b2'.tr n2) n3 n1, fun z => absurd rfl z⟩
  refine r_fine1 (by decide) b3 ⟨fun _ => ⟨fun heq => no1 (fun z => z.1 heq), fun hne => r_lies ?_⟩, fun z => absurd z (by decide)⟩
  rw [gd_rI_at]
  have l1 := nu_lies (x := x3) (a := 1) (b := 1000) (by omega) (by omega)
  have l2 := nu_lies (x := x4) (a := 1) (b := 10000) (by omega) (by omega)
  have l3 := nu_lies (x := x5) (a := 0) (b := 999) (by omega) (by omega)
  refine ⟨fun z => no1 (fun y => of_decide_eq_false (b2_0 z) (l1.mpr y.2.1)), fun z => r_lies ?_⟩
  have q1 := l1.mp (of_decide_eq_true (b2_1 z))
  rw [gd_rI_at]
  refine ⟨fun z => no1 (fun y => of_decide_eq_false (b2_0 z) (l2.mpr y.2.2.1)), fun z => r_lies ?_⟩
  have q3 := l2.mp (of_decide_eq_true (b2_1 z))
  rw [gd_rI_at]
  refine ⟨fun z => no1 (fun y => of_decide_eq_false (b2_0 z) (l3.mpr y.2.2.2)), fun z => ?_⟩
  have q5 := l3.mp (of_decide_eq_true (b2_1 z))
  have sO : saO x1 x2 x3 x4 x5 := ⟨hne, q1, q3, q5⟩
  refine r_fine1 (by decide) b3 ⟨fun z => absurd z (by decide), fun _ => r_sales b1.1 ?_⟩
  rw [gd_rI_at]
  refine pk_le 24 (Hh S.1 1) (fun hge => ?_) (fun hlt => ?_) rfl rfl (by omega) (by omega)
  · refine r_fine0 (k := 2) (by decide) (by decide) b3 ?_
    obtain ⟨n1, n2, n3⟩ := gr_no (c := 3) (k := 2) (by decide) b1
    exact ⟨fun z => absurd rfl z, fun _ => h3 s1 s2 sO hge _ (b2'.tr n2) n3 n1⟩
  obtain ⟨u, u1, u2, eu⟩ := nu_rng (a := 1) (b := 1000) (by omega) (by omega) q1.1 q1.2
  obtain ⟨p, p1, p2, ep⟩ := nu_rng (a := 1) (b := 10000) (by omega) (by omega) q3.1 q3.2
  obtain ⟨t, -, t2, et⟩ := nu_rng (a := 0) (b := 999) (by omega) (by omega) q5.1 q5.2
  subst ea; subst eb; subst eu; subst ep; subst et
  refine r_fine1 (by decide) b3 ⟨fun _ => r_keepsG b1 hS (fun w fw tw Gw => ?_), fun z => absurd z (by decide)⟩
  rw [gd_rV_at]
  refine r_sales (H := S.1) Gw.1 ?_
  rw [gd_rI_at, show (57 : Int32) + 9 * nI (Hh S.1 1) = nI (57 + 9 * Hh S.1 1) from by rw [nu_I 57, nu_I 9, pk_mul, nI_add]]
  have key : ∀ (k j : Nat) (y : gd_D), j + k = 9 → fr (fx [40]) w y → (∀ q, ¬ (57 + 9 * Hh S.1 1 ≤ q ∧ q < 57 + 9 * Hh S.1 1 + 9) → y.2.1 40 0 q = w.2.1 40 0 q) → (∀ q, q < j → y.2.1 40 0 (57 + 9 * Hh S.1 1 + q) = 0) → gd_G g mX11_sale d 0 0 138 [(0, zR 11 0), (1, zI (nI a)), (2, zI (nI b)), (3, zI (nI u)), (4, zI (nI p)), (5, zI (nI t)), (6, zI (nI (57 + 9 * Hh S.1 1))), (7, zI (nI j))] [] y Q := by
    intro k
    induction k with
    | zero =>
      intro j y hj fy' hX hz
      have e : j = 9 := by omega
      subst e
      refine w_X11_sale_138 (by omega) (pk_le 9 9 (fun _ => ?_) (fun q => absurd q (Nat.lt_irrefl _)) rfl rfl (by omega) (by omega))
      rw [nu_I 0, nu_I 1, nu_I 2, nu_I 3, nu_I 4, nu_I 5, nI_add, nI_add, nI_add, nI_add, nI_add, nI_add, nI_clamp (by omega), nI_clamp (by omega), nI_clamp (by omega), nI_clamp (by omega), nI_clamp (by omega), nI_clamp (by omega), nI_clamp (by omega), nu_l (by omega), nu_l (by omega), nu_l (by omega), nu_l (by omega), nu_l (by omega)]
      refine ⟨nu_in (by omega) (by omega), ?_⟩
      rintro _ rfl
      refine ⟨nu_in (by omega) (by omega), ?_⟩
      rintro _ rfl
      refine ⟨nu_in (by omega) (by omega), ?_⟩
      rintro _ rfl
      refine ⟨nu_in (by omega) (by omega), ?_⟩
      rintro _ rfl
      refine ⟨nu_in (by omega) (by omega), ?_⟩
      rintro _ rfl
      refine ⟨nu_in (by omega) (by omega), ?_⟩
      rintro _ rfl
      refine ⟨nu_in (by omega) (by omega), nu_in (by omega) (by omega), ?_⟩
      intro y7 h7
      have f7 : fr (fx [40]) w y7 := by
        rw [h7]
        exact (((((((fy'.tr (fr.sJ (fx_y rfl))).tr (fr.sJ (fx_y rfl))).tr (fr.sJ (fx_y rfl))).tr (fr.sJ (fx_y rfl))).tr (fr.sJ (fx_y rfl))).tr (fr.sJ (fx_y rfl))).tr (fr.sJ (fx_y rfl)))
      have R7 : rm_R (y7.2.1 40 0) (h_adds S.1 a b u p t) := by
        refine rm_adds (f := w.2.1 40 0) Gw.1 hlt h8 (fun j hj => ?_) ?_ (fun q q1 q2 => ?_)
        · rw [h7]
          have hc : j = 0 ∨ j = 1 ∨ j = 2 ∨ j = 3 ∨ j = 4 ∨ j = 5 ∨ j = 6 ∨ j = 7 ∨ j = 8 := by omega
          rcases hc with q | q | q | q | q | q | q | q | q <;> subst q <;> (repeat (first | rw [sJ_at] | rw [sJ_ne (by omega)])) <;> first | rfl | exact hz _ (by omega)
        · rw [h7, sJ_at]
          repeat rw [sJ_ne (by omega)]
          rw [hX 1 (by omega), Gw.1.1 1 (by omega)]
          exact lN_add _ 1
        · rw [h7]
          repeat rw [sJ_ne (by omega)]
          exact hX q q2
      refine r_sales R7 ?_
      rw [gd_rI_at, show Hh (h_adds S.1 a b u p t) 1 = Hh S.1 1 + 1 from rfl, show nI (Hh S.1 1 + 1) - nI 1 = nI (Hh S.1 1) from nI_pred _]
      have f7' : fr fV w y7 := f7.wk (fun k i j q => by rw [List.mem_singleton.mp q]; exact Or.inl (by decide))
      refine h1 a b u p t y7 ha hb (fun e => hne (by rw [e])) ⟨u1, u2⟩ ⟨p1, p2⟩ t2 rfl rfl rfl rfl rfl hlt ((b2'.tr fw).tr (fV_re f7')) ?_ (gr_house Gw f7' R7 (fun z hz => by rw [f7.I (fun _ => fx_n rfl)]; exact Gw.2.2.2.2.2.2 z hz))
      rw [f7.I (fun _ => fx_n rfl), tw]; exact b3
    | succ k ih =>
      intro j y hj fy' hX hz
      refine w_X11_sale_138 (by omega) (pk_le 9 j (fun q => absurd q (by omega)) (fun _ => ?_) rfl rfl (by omega) (by omega))
      rw [nI_add, nI_clamp (by omega), nu_1]
      refine ⟨nu_in (by omega) (by omega), ?_⟩
      rintro _ rfl
      refine ih (j + 1) _ (by omega) (fy'.tr (fr.sJ (fx_y rfl))) (fun q hq => by rw [sJ_ne (by omega)]; exact hX q hq) (fun q hq => ?_)
      by_cases e : q = j
      · subst e; exact sJ_at
      · rw [sJ_ne (by omega)]; exact hz q (by omega)
  exact key 9 0 w (by omega) fr.rf (fun _ _ => rfl) (fun q hq => absurd hq (by omega))
theorem gs_sale_ok {a b u p t : Nat} (hS : gs_ok S) (hN : Hh S.1 1 < 24) (ha : a < Hh S.1 0) (hb : b < Hh S.1 0) (hab : ¬ a = b) (hu : 1 ≤ u ∧ u ≤ 1000) (hp : 1 ≤ p ∧ p ≤ 10000) (ht : t ≤ 999) : gs_ok (gs_sale S a b u p t) := ⟨h_adds_W hS.1 hN ha hb hab hu hp ht, (gs_kept_ok hS).2⟩
end CSL
