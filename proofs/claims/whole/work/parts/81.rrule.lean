/-! TEXT, the reference's side: the rule is read -/
def fJ (k i j : Nat) : Prop := fD k i j ∨ (k = 11 ∧ i = 0 ∧ j = 16) ∨ (k = 41 ∧ i = 0 ∧ (j = 7 ∨ 273 ≤ j))
def rC (v : gd_D) (L : List Nat) : Prop := v.2.1 41 0 7 = lN L.length ∧ ∀ i, i < L.length → v.2.1 41 0 (273 + i) = lN (L.getD i 0)
def rXx (v : gd_D) (T : Nat → Int32) (n : Nat) (x : rX) : Prop := match x with
  | Sum.inl e => rP v T n (Sum.inl e)
  | Sum.inr q => rP v T n (Sum.inr q.1) ∧ rC v q.2
theorem fD_J : ∀ k i j, fD k i j → fJ k i j := fun _ _ _ q => Or.inl q
theorem fD1_J : ∀ k i j, fD1 k i j → fJ k i j := fun k i j q => Or.inl (fD1_D k i j q)
section RR
variable {g : ab_E} {d : Nat} {v : gd_D} {Q : ab_O → gd_D → Prop} {T : Nat → Int32} {n : Nat}
theorem rC.D {v' : gd_D} {L : List Nat} (h : rC v L) (hf : fr fD v v') : rC v' L := by
  have e : v'.2.1 41 0 = v.2.1 41 0 := hf.J (fun j q => absurd q.1 (by decide))
  unfold rC; rw [e]; exact h
theorem o16 {v' : gd_D} (hf : fr fD v v') : v'.1 11 0 16 = v.1 11 0 16 := (hf.1 11 0 16 (fun q => by have := q.2.2; omega)).1
theorem rP.e {v' : gd_D} {y : rY} (hP : rP v T n y) (h : v'.1 = v.1) : rP v' T n y := by
  obtain ⟨ht, k, hk, h3⟩ := hP
  refine ⟨by rw [h]; exact ht, k, by rw [h]; exact hk, ?_⟩
  cases y with
  | inl e => show k ≤ 520 ∧ _; rw [h]; exact h3
  | inr p => show k ≤ n ∧ _; rw [h]; exact h3
/-- opened is apart from the place -/
theorem rP.o {x : Int32} {y : rY} (hP : rP v T n y) : rP (gd_sI v 11 0 16 x) T n y := by
  obtain ⟨ht, k, hk, h3⟩ := hP
  refine ⟨⟨ht.1, by rw [sI_ne (by omega)]; exact ht.2.1, fun j hj => by rw [sI_ne (by omega)]; exact ht.2.2 j hj⟩, k, by rw [sI_ne (by omega)]; exact hk, ?_⟩
  cases y with
  | inl e => show k ≤ 520 ∧ _; rw [sI_ne (by omega), sI_ne (by omega)]; exact h3
  | inr p => show k ≤ n ∧ _; rw [sI_ne (by omega)]; exact h3
theorem r_code {c : Nat} {a : Int64} {x : rX} (hX : rXx v T n x) (ha : ∀ q, x = Sum.inr q → a = lN c) (hl : ∀ p L, x = Sum.inr (p, L) → L.length < 500) (hQ : ∀ v', fr fJ v v' → v'.1 = v.1 → rXx v' T n (xb x (fun p L => Sum.inr (p, L ++ [c]))) → Q (Sum.inl none) v') : gd_C g mX11_code d 0 0 [zR 11 0, zJ a] v Q := by
  cases x with
  | inl e =>
    obtain ⟨ht, k, hk, e0, e1, e2, e3, e4⟩ := id hX
    exact c_X11_code (Nat.zero_le _) (pk_le e.1 0 (fun q => absurd q (by omega)) (fun _ => hQ v fr.rf rfl hX) e3 rfl (by omega) (by omega))
  | inr q =>
    obtain ⟨p, L⟩ := q
    obtain ⟨hP, c1, c2⟩ := hX
    obtain ⟨ht, k, hk, e0, e3, e4⟩ := id hP
    have hL := hl p L rfl
    have c1 : v.2.1 41 0 7 = lN L.length := c1
    have c2 : ∀ i, i < L.length → v.2.1 41 0 (273 + i) = lN (L.getD i 0) := c2
    have ea := ha (p, L) rfl
    subst ea
    refine c_X11_code (Nat.zero_le _) (pk_le 0 0 (fun _ => ?_) (fun q => absurd q (by omega)) e3 rfl (by omega) (by omega))
    rw [show ((7 : Int32)).toNatClampNeg = 7 from by decide, c1, lN_i]
    refine ⟨nu_in (n := 7) (by decide) (by decide), ?_⟩
    rintro _ rfl
    rw [nu_I 273, nI_add, nI_clamp (by omega)]
    refine ⟨nu_in (by omega) (by omega), ?_⟩
    rintro _ rfl
    refine ⟨nu_in (n := 7) (by decide) (by decide), nu_in (n := 7) (by decide) (by decide), ?_⟩
    rintro _ rfl
    rw [sJ_ne (by omega), c1, lN_1]
    refine hQ _ ((fr.sJ (Or.inr (Or.inr ⟨rfl, rfl, Or.inr (by omega)⟩))).tr (fr.sJ (Or.inr (Or.inr ⟨rfl, rfl, Or.inl rfl⟩)))) rfl ⟨hP.e rfl, ?_, fun i hi => ?_⟩
    · rw [sJ_at]
      show _ = lN (L ++ [c]).length
      rw [List.length_append, List.length_singleton]
    · have hi : i < (L ++ [c]).length := hi
      rw [List.length_append, List.length_singleton] at hi
      rw [sJ_ne (by omega)]
      show _ = lN ((L ++ [c]).getD i 0)
      by_cases e : i = L.length
      · subst e
        rw [sJ_at, List.getD_eq_getElem?_getD, List.getElem?_append_right (Nat.le_refl _), Nat.sub_self]
        rfl
      · rw [sJ_ne (by omega), c2 i (by omega), List.getD_eq_getElem?_getD, List.getD_eq_getElem?_getD, List.getElem?_append_left (by omega)]
def rFac (g : ab_E) (T : Nat → Int32) (n : Nat) (M : ab_M) (o : Int32) (f : Nat → List Nat → rX) (dp : Nat) : Prop := ∀ (d : Nat) (v : gd_D) (Q : ab_O → gd_D → Prop) (x : rX), dp ≤ d → rXx v T n x → xok T n x → (∀ q, x = Sum.inr q → v.1 11 0 16 = o) → (∀ v', fr fJ v v' → rXx v' T n (xb x f) → (∀ q, xb x f = Sum.inr q → v'.1 11 0 16 = o) → Q (Sum.inl none) v') → gd_C g M d 0 0 [zR 11 0] v Q
theorem rXx.P {x : rX} (h : rXx v T n x) : rP v T n (xy x) := by
  cases x with
  | inl e => exact h
  | inr q => exact h.1
theorem r_term {o : Int32} {f : Nat → List Nat → rX} {dp b : Nat} (hdp : 3 ≤ dp) (hn : n ≤ 500) (hF : rFac g T n mX11_factor o f dp) (hg : gF T n b f) : rFac g T n mX11_term o (pP T n f) (dp + 1) := by
  intro d v Q x hd hX hx ho hQ
  have loop : ∀ (k : Nat) (y : rX) (u : gd_D), rXx u T n y → xok T n y → (∀ p L, y = Sum.inr (p, L) → n ≤ p + k) → fr fJ v u → (∀ q, y = Sum.inr q → u.1 11 0 16 = o) → (∀ v', fr fJ v v' → rXx v' T n (xb y (pPl T n f k)) → (∀ q, xb y (pPl T n f k) = Sum.inr q → v'.1 11 0 16 = o) → Q (Sum.inl none) v') → gd_G g mX11_term d 0 0 4 [(0, zR 11 0)] [] u Q := by
    intro k
    induction k with
    | zero =>
      intro y u hY hy hle fu hou hq
      refine w_X11_term_4 (e := dp) hd (by omega) (r_passes (by decide) (by decide) (by decide) (Nat.le_refl 3) hY.P (fun e q => ?_) (fun u1 p q z f1 E1 => ?_) (fun u1 p q z f1 P1 => ?_))
      · cases y with
        | inl e2 => exact ⟨fun _ => hq u fu hY (fun q h => by cases h), fun z => absurd rfl z⟩
        | inr q2 => cases q
      · cases y with
        | inl e2 => cases q
        | inr q2 =>
          obtain ⟨p2, L⟩ := q2
          cases q
          refine ⟨fun _ => hq u1 (fu.tr (f1.wk fD1_J)) ⟨E1.P, hY.2.D (f1.wk fD1_D)⟩ (fun q h => ?_), fun z => absurd rfl z⟩
          rw [o16 (f1.wk fD1_D)]; exact hou _ rfl
      · cases y with
        | inl e2 => cases q
        | inr q2 =>
          obtain ⟨p2, L⟩ := q2
          cases q
          have h1 : n ≤ p2 + 0 := hle p2 L rfl
          have h2 : p2 < n := z.1
          omega
    | succ k ih =>
      intro y u hY hy hle fu hou hq
      refine w_X11_term_4 (e := dp) hd (by omega) (r_passes (by decide) (by decide) (by decide) (Nat.le_refl 3) hY.P (fun e q => ?_) (fun u1 p q z f1 E1 => ?_) (fun u1 p q z f1 P1 => ?_))
      · cases y with
        | inl e2 => exact ⟨fun _ => hq u fu hY (fun q h => by cases h), fun z => absurd rfl z⟩
        | inr q2 => cases q
      · cases y with
        | inl e2 => cases q
        | inr q2 =>
          obtain ⟨p2, L⟩ := q2
          cases q
          have est : xb (Sum.inr (p2, L)) (pPl T n f (k + 1)) = Sum.inr (p2, L) := by
            rw [xb_r]
            show (if p2 < n ∧ T p2 = 42 then _ else _) = _
            rw [if_neg z]
          refine ⟨fun _ => hq u1 (fu.tr (f1.wk fD1_J)) ?_ (fun q h => ?_), fun z => absurd rfl z⟩
          · rw [est]; exact ⟨E1.P, hY.2.D (f1.wk fD1_D)⟩
          · rw [o16 (f1.wk fD1_D)]; exact hou _ rfl
      · cases y with
        | inl e2 => cases q
        | inr q2 =>
          obtain ⟨p2, L⟩ := q2
          cases q
          have z : p2 < n ∧ T p2 = 42 := z
          have hnx := nx_sp (T := T) z.1
          have hpL := hy p2 L rfl
          have hle2 := hle p2 L rfl
          have est : xb (Sum.inr (p2, L)) (pPl T n f (k + 1)) = xb (f (nx T n p2) L) (fun q M => pPl T n f k q (M ++ [2000042])) := by
            rw [xb_r]
            show (if p2 < n ∧ T p2 = 42 then _ else _) = _
            rw [if_pos z]
          refine ⟨fun q => absurd q (by decide), fun _ => ?_⟩
          have X1 : rXx u1 T n (Sum.inr (nx T n p2, L)) := ⟨P1, hY.2.D (f1.wk fD1_D)⟩
          refine hF dp u1 _ _ (Nat.le_refl _) X1 (fun q M e => by cases e; exact ⟨hnx.2, by omega⟩) (fun q _ => by rw [o16 (f1.wk fD1_D)]; exact hou _ rfl) (fun u2 f2 X2 o2 => ?_)
          rw [gd_rV_at]
          rw [xb_r] at X2 o2
          have g2 := hg (nx T n p2) L hnx.2
          refine r_code (c := 2000042) X2 (fun q _ => rfl) (fun q M e => ?_) (fun u3 f3 i3 X3 => ?_)
          · rw [e] at g2
            obtain ⟨a1, a2, C, e2, a3, -, -⟩ := g2
            have e2 : M = L ++ C := e2
            have a3 : C.length + nx T n p2 ≤ q := a3
            have a2 : q ≤ n := a2.1
            rw [e2, List.length_append]; omega
          · rw [gd_rV_at]
            have fu3 : fr fJ v u3 := ((fu.tr (f1.wk fD1_J)).tr f2).tr f3
            refine ih _ u3 X3 (fun q M e => ?_) (fun q M e => ?_) fu3 (fun q e => ?_) (fun v' fv Xv ov => hq v' fv ?_ (fun q e => ov q ?_))
            · cases hfx : f (nx T n p2) L with
              | inl e2 => rw [hfx] at e; cases e
              | inr r =>
                rw [hfx] at e g2
                obtain ⟨a1, a2, C, e2, a3, -, -⟩ := g2
                have a3 : C.length + nx T n p2 ≤ r.1 := a3
                cases e
                refine ⟨a2, ?_⟩
                have e2 : r.2 = L ++ C := e2
                rw [List.length_append, e2, List.length_append, List.length_singleton]; omega
            · cases hfx : f (nx T n p2) L with
              | inl e2 => rw [hfx] at e; cases e
              | inr r =>
                rw [hfx] at e g2
                cases e
                have := g2.1
                omega
            · rw [i3]
              cases hfx : f (nx T n p2) L with
              | inl e2 => rw [hfx] at e; cases e
              | inr r => exact o2 r hfx
            · rw [est]
              cases hfx : f (nx T n p2) L with
              | inl e2 => rw [hfx] at Xv; exact Xv
              | inr r => rw [hfx] at Xv; exact Xv
            · rw [est] at e
              cases hfx : f (nx T n p2) L with
              | inl e2 => rw [hfx] at e; cases e
              | inr r => rw [hfx] at e; exact e
  refine c_X11_term (e := dp) hd (Nat.zero_le _) (hF dp v _ x (Nat.le_refl _) hX hx ho (fun v1 f1 X1 o1 => ?_))
  rw [gd_rV_at]
  refine loop n _ v1 X1 ?_ (fun p L _ => by omega) f1 o1 (fun v' fv Xv ov => hQ v' fv ?_ (fun q e => ov q ?_))
  · cases x with
    | inl e => exact xok_l
    | inr q =>
      obtain ⟨p, L⟩ := q
      exact xok_g (hg p L (hx p L rfl).1) (hx p L rfl).2
  · cases x with
    | inl e => exact Xv
    | inr q => exact Xv
  · cases x with
    | inl e2 => exact e
    | inr q2 => exact e
theorem r_expr {o : Int32} {f : Nat → List Nat → rX} {dp b : Nat} (hdp : 3 ≤ dp) (hn : n ≤ 500) (hF : rFac g T n mX11_factor o f dp) (hg : gF T n b f) : rFac g T n mX11_expression o (pS T n f) (dp + 2) := by
  have hT := r_term hdp hn hF hg
  have hgP := pP_g hg
  intro d v Q x hd hX hx ho hQ
  have loop : ∀ (k : Nat) (y : rX) (u : gd_D), rXx u T n y → xok T n y → (∀ p L, y = Sum.inr (p, L) → n ≤ p + k) → fr fJ v u → (∀ q, y = Sum.inr q → u.1 11 0 16 = o) → (∀ v', fr fJ v v' → rXx v' T n (xb y (pSl T n f k)) → (∀ q, xb y (pSl T n f k) = Sum.inr q → v'.1 11 0 16 = o) → Q (Sum.inl none) v') → gd_G g mX11_expression d 0 0 4 [(0, zR 11 0)] [] u Q := by
    intro k
    induction k with
    | zero =>
      intro y u hY hy hle fu hou hq
      cases y with
      | inl e =>
        obtain ⟨ht, h, hh, e0, e1, e2, e3, e4⟩ := id hY
        exact w_X11_expression_4 (e := dp + 1) hd (by omega) ⟨fun _ => hq u fu hY (fun q h => by cases h), fun q => absurd (e3.symm.trans q) (nI_ne0 e1 (by omega))⟩
      | inr q =>
        obtain ⟨p, L⟩ := q
        obtain ⟨ht, h, hh, e0, e3, e4⟩ := id hY.1
        have hpn : n ≤ p + 0 := hle p L rfl
        have fin : ∀ u1, fr fD1 u u1 → rE u1 T n p → Q (Sum.inl none) u1 := fun u1 f1 E1 => hq u1 (fu.tr (f1.wk fD1_J)) ⟨E1.P, hY.2.D (f1.wk fD1_D)⟩ (fun q h => by rw [o16 (f1.wk fD1_D)]; exact hou _ rfl)
        refine w_X11_expression_4 (e := dp + 1) hd (by omega) ⟨fun q => absurd e3 q, fun _ => r_sign hY.1 (fun v1 x e q => by cases q) (fun u1 p' q f1 E1 => ?_)⟩
        cases q
        rw [gd_rI_at, if_neg (by omega)]
        refine ⟨fun q => absurd q (by decide), fun _ => r_sign E1.P (fun v1 x e q => by cases q) (fun u2 p' q f2 E2 => ?_)⟩
        cases q
        rw [gd_rI_at, if_neg (by omega)]
        exact ⟨fun _ => fin u2 (f1.tr f2) E2, fun q => absurd q (by decide)⟩
    | succ k ih =>
      intro y u hY hy hle fu hou hq
      cases y with
      | inl e =>
        obtain ⟨ht, h, hh, e0, e1, e2, e3, e4⟩ := id hY
        exact w_X11_expression_4 (e := dp + 1) hd (by omega) ⟨fun _ => hq u fu hY (fun q h => by cases h), fun q => absurd (e3.symm.trans q) (nI_ne0 e1 (by omega))⟩
      | inr q =>
        obtain ⟨p, L⟩ := q
        obtain ⟨ht, h, hh, e0, e3, e4⟩ := id hY.1
        have hpL := hy p L rfl
        have hle2 := hle p L rfl
        have step : ∀ (c : Nat) (ch : Int32) (u1 : gd_D), isL ch = false → isN ch = false → (2000000 + ch.toInt64 = lN c) → (c = 2000043 ∨ c = 2000045) → p < n → T p = ch → fr fD1 u u1 → rE u1 T n p → xb (Sum.inr (p, L)) (pSl T n f (k + 1)) = xb (pP T n f (nx T n p) L) (fun q M => pSl T n f k q (M ++ [c])) → wp_X11_expression_29 g d (dp + 1) u1 Q := by
          intro c ch u1 hcL hcN hce hc hlt hch f1 E1 est
          have hnx := nx_sp (T := T) hlt
          obtain ⟨t1, hh1, hf1, hst⟩ := id E1
          refine pk_le n p (fun q => absurd q (by omega)) (fun _ => r_sign E1.P (fun v1 x e q => by cases q) (fun u2 p' q f2 E2 => ?_)) t1.2.1 hh1 (by omega) (by omega)
          cases q
          rw [gd_rI_at, if_pos hlt, hch]
          rintro _ rfl
          obtain ⟨t2, hh2, hf2, hst2⟩ := id E2
          rw [hh2, nu_1]
          have f3 : fr fD1 u2 (gd_sI u2 11 0 11 (nI (p + 1))) := fr.sI ⟨rfl, rfl, rfl⟩
          have P3 : rP (gd_sI u2 11 0 11 (nI (p + 1))) T n (Sum.inr (nx T n p)) := by
            refine ⟨rT.D t2 (f3.wk fD1_D), p + 1, sI_at, by omega, by rw [sI_ne (by omega)]; exact hf2, ?_⟩
            unfold nx te
            rw [hch, hcL, if_neg Bool.false_ne_true, hcN, if_neg Bool.false_ne_true]
          have f13 : fr fD1 u (gd_sI u2 11 0 11 (nI (p + 1))) := (f1.tr f2).tr f3
          have X3 : rXx (gd_sI u2 11 0 11 (nI (p + 1))) T n (Sum.inr (nx T n p, L)) := ⟨P3, hY.2.D (f13.wk fD1_D)⟩
          refine hT (dp + 1) _ _ _ (Nat.le_refl _) X3 (fun q M e => by cases e; exact ⟨hnx.2, by omega⟩) (fun q _ => by rw [o16 (f13.wk fD1_D)]; exact hou _ rfl) (fun u4 f4 X4 o4 => ?_)
          rw [gd_rV_at]
          rw [xb_r] at X4 o4
          have g2 := hgP (nx T n p) L hnx.2
          refine r_code (c := c) X4 (fun q _ => hce) (fun q M e => ?_) (fun u5 f5 i5 X5 => ?_)
          · rw [e] at g2
            obtain ⟨a1, a2, C, e2, a3, -, -⟩ := g2
            have e2 : M = L ++ C := e2
            have a3 : C.length + nx T n p ≤ q := a3
            have a2 : q ≤ n := a2.1
            rw [e2, List.length_append]; omega
          · rw [gd_rV_at]
            have fu5 : fr fJ v u5 := ((fu.tr (f13.wk fD1_J)).tr f4).tr f5
            refine ih _ u5 X5 (fun q M e => ?_) (fun q M e => ?_) fu5 (fun q e => ?_) (fun v' fv Xv ov => hq v' fv ?_ (fun q e => ov q ?_))
            · cases hfx : pP T n f (nx T n p) L with
              | inl e2 => rw [hfx] at e; cases e
              | inr r =>
                rw [hfx] at e g2
                obtain ⟨a1, a2, C, e2, a3, -, -⟩ := g2
                have a3 : C.length + nx T n p ≤ r.1 := a3
                cases e
                refine ⟨a2, ?_⟩
                have e2 : r.2 = L ++ C := e2
                rw [List.length_append, e2, List.length_append, List.length_singleton]; omega
            · cases hfx : pP T n f (nx T n p) L with
              | inl e2 => rw [hfx] at e; cases e
              | inr r =>
                rw [hfx] at e g2
                cases e
                have := g2.1
                omega
            · rw [i5]
              cases hfx : pP T n f (nx T n p) L with
              | inl e2 => rw [hfx] at e; cases e
              | inr r => exact o4 r hfx
            · rw [est]
              cases hfx : pP T n f (nx T n p) L with
              | inl e2 => rw [hfx] at Xv; exact Xv
              | inr r => rw [hfx] at Xv; exact Xv
            · rw [est] at e
              cases hfx : pP T n f (nx T n p) L with
              | inl e2 => rw [hfx] at e; cases e
              | inr r => rw [hfx] at e; exact e
        refine w_X11_expression_4 (e := dp + 1) hd (by omega) ⟨fun q => absurd e3 q, fun _ => r_sign hY.1 (fun v1 x e q => by cases q) (fun u1 p' q f1 E1 => ?_)⟩
        cases q
        rw [gd_rI_at]
        have val : ∀ ch : Int32, ¬ ch = 0 → ((if p < n then T p else 0) = ch ↔ (p < n ∧ T p = ch)) := by
          intro ch h0
          by_cases hlt : p < n
          · rw [if_pos hlt]; exact ⟨fun q => ⟨hlt, q⟩, fun q => q.2⟩
          · rw [if_neg hlt]; exact ⟨fun q => absurd q.symm h0, fun q => absurd q.1 hlt⟩
        refine ⟨fun q => ?_, fun q => r_sign E1.P (fun v1 x e q => by cases q) (fun u2 p' q2 f2 E2 => ?_)⟩
        · have hc := (val 43 (by decide)).mp q
          refine step 2000043 43 u1 (by decide) (by decide) (by decide) (Or.inl rfl) hc.1 hc.2 f1 E1 ?_
          rw [xb_r]
          show (if p < n ∧ T p = 43 then _ else _) = _
          rw [if_pos hc]
        · have h43 : ¬ (p < n ∧ T p = 43) := fun z => q ((val 43 (by decide)).mpr z)
          cases q2
          rw [gd_rI_at]
          refine ⟨fun q3 => hq u2 (fu.tr ((f1.tr f2).wk fD1_J)) ?_ (fun q h => ?_), fun q3 => ?_⟩
          · have h45 : ¬ (p < n ∧ T p = 45) := fun z => q3 ((val 45 (by decide)).mpr z)
            rw [xb_r]
            show rXx u2 T n (if p < n ∧ T p = 43 then _ else if p < n ∧ T p = 45 then _ else _)
            rw [if_neg h43, if_neg h45]
            exact ⟨E2.P, hY.2.D ((f1.tr f2).wk fD1_D)⟩
          · rw [o16 ((f1.tr f2).wk fD1_D)]; exact hou _ rfl
          · have hc := (val 45 (by decide)).mp q3
            refine step 2000045 45 u2 (by decide) (by decide) (by decide) (Or.inr rfl) hc.1 hc.2 (f1.tr f2) E2 ?_
            rw [xb_r]
            show (if p < n ∧ T p = 43 then _ else if p < n ∧ T p = 45 then _ else _) = _
            rw [if_neg h43, if_pos hc]
  refine c_X11_expression (e := dp + 1) hd (Nat.zero_le _) (hT (dp + 1) v _ x (Nat.le_refl _) hX hx ho (fun v1 f1 X1 o1 => ?_))
  rw [gd_rV_at]
  refine loop n _ v1 X1 ?_ (fun p L _ => by omega) f1 o1 (fun v' fv Xv ov => hQ v' fv ?_ (fun q e => ov q ?_))
  · cases x with
    | inl e => exact xok_l
    | inr q =>
      obtain ⟨p, L⟩ := q
      exact xok_g (hgP p L (hx p L rfl).1) (hx p L rfl).2
  · cases x with
    | inl e => exact Xv
    | inr q => exact Xv
  · cases x with
    | inl e2 => exact e
    | inr q2 => exact e
end RR
