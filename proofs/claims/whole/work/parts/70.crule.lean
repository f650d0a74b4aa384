/-! TEXT, the class's side: the rule is read -/
theorem xb_l {e : Nat × Nat} {f : Nat → List Nat → rX} : xb (Sum.inl e) f = Sum.inl e := rfl
theorem xb_r {p : Nat} {L : List Nat} {f : Nat → List Nat → rX} : xb (Sum.inr (p, L)) f = f p L := rfl
def xy (x : rX) : rY := match x with
  | Sum.inl e => Sum.inl e
  | Sum.inr q => Sum.inr q.1
/-- where code may stand -/
def xok (T : Nat → Int32) (n : Nat) (x : rX) : Prop := ∀ p L, x = Sum.inr (p, L) → stt T n p ∧ L.length ≤ p
theorem xok_l {T : Nat → Int32} {n : Nat} {e : Nat × Nat} : xok T n (Sum.inl e) := fun _ _ h => by cases h
theorem xok_g {T : Nat → Int32} {n b p : Nat} {L : List Nat} {x : rX} (h : gX T n b p L x) (hl : L.length ≤ p) : xok T n x := by
  intro q M e
  subst e
  obtain ⟨a1, a2, C, e, a3, -, -⟩ := h
  have e : M = L ++ C := e
  have a3 : C.length + p ≤ q := a3
  exact ⟨a2, by rw [e, List.length_append]; omega⟩
section KR
variable {g : ab_E} {d : Nat} {v : gd_D} {Q : ab_O → gd_D → Prop} {T : Nat → Int32} {n m : Nat}
theorem kX.P {x : rX} (h : kX v T n m x) : kP v T n m (xy x) := by
  cases x with
  | inl e => exact h
  | inr q => exact h.1
theorem k_write {c : Nat} {a : Int32} {x : rX} (hX : kX v T n m x) (ha : ∀ q, x = Sum.inr q → a = cr_s c) (hl : ∀ p L, x = Sum.inr (p, L) → L.length < 500) (hQ : ∀ v', fr fQ v v' → kX v' T n m (xb x (fun p L => Sum.inr (p, L ++ [c]))) → Q (Sum.inl none) v') : gd_C g mX7_write d 0 0 [zR 7 0, zI a] v Q := by
  cases x with
  | inl e =>
    obtain ⟨ht, k, hk, hk2, e1, e2, e3, e4⟩ := hX
    exact c_X7_write (Nat.zero_le _) ⟨fun _ => hQ v fr.rf ⟨ht, k, hk, hk2, e1, e2, e3, e4⟩, fun q => absurd (e3.symm.trans q) (nI_ne0 e1 (by omega))⟩
  | inr q =>
    obtain ⟨p, L⟩ := q
    obtain ⟨⟨ht, k, hk, hk2, e3, e4, e5⟩, c1, c2⟩ := hX
    have hL := hl p L rfl
    have c1 : v.1 7 0 9 = nI L.length := c1
    have c2 : ∀ i, i < L.length → v.1 35 0 i = cr_s (L.getD i 0) := c2
    have ea := ha (p, L) rfl
    subst ea
    refine c_X7_write (Nat.zero_le _) ⟨fun q => absurd e3 q, fun _ => pk_le 500 L.length (fun q => absurd q (by omega)) (fun _ => ?_) rfl c1 (by omega) (by omega)⟩
    rw [c1, nI_clamp (by omega)]
    refine ⟨nu_in (by omega) (by omega), ?_⟩
    rintro _ rfl _ rfl
    rw [sI_ne (by omega), c1, nu_1]
    have f2 : fr fQ v (gd_sI (gd_sI v 35 0 L.length (cr_s c)) 7 0 9 (nI (L.length + 1))) := (fr.sI (Or.inr (Or.inr ⟨rfl, rfl⟩))).tr (fr.sI (Or.inr (Or.inl ⟨rfl, rfl, rfl⟩)))
    refine hQ _ f2 ⟨⟨ht.k f2 (fun j => ⟨?_, ?_, ?_⟩) ?_, k, hk, ?_, ?_, ?_, e5⟩, ?_, fun i hi => ?_⟩
    · intro q; rcases q with q | q | q
      · exact absurd q.1 (by decide)
      · exact absurd q.1 (by decide)
      · exact absurd q.1 (by decide)
    · intro q; rcases q with q | q | q
      · exact absurd q.1 (by decide)
      · exact absurd q.1 (by decide)
      · exact absurd q.1 (by decide)
    · intro q; rcases q with q | q | q
      · exact absurd q.1 (by decide)
      · exact absurd q.1 (by decide)
      · exact absurd q.1 (by decide)
    · intro q; rcases q with q | q | q
      · have := q.2.2; omega
      · exact absurd q.2.2 (by decide)
      · exact absurd q.1 (by decide)
    · rw [sI_ne (by omega), sI_ne (by omega)]; exact hk2
    · rw [sI_ne (by omega), sI_ne (by omega)]; exact e3
    · rw [sI_ne (by omega), sI_ne (by omega)]; exact e4
    · rw [sI_at]
      show _ = nI (L ++ [c]).length
      rw [List.length_append, List.length_singleton]
    · have hi : i < (L ++ [c]).length := hi
      rw [List.length_append, List.length_singleton] at hi
      rw [sI_ne (by omega)]
      show _ = cr_s ((L ++ [c]).getD i 0)
      by_cases e : i = L.length
      · subst e
        rw [sI_at, List.getD_eq_getElem?_getD, List.getElem?_append_right (Nat.le_refl _), Nat.sub_self]
        rfl
      · rw [sI_ne (by omega), c2 i (by omega), List.getD_eq_getElem?_getD, List.getD_eq_getElem?_getD, List.getElem?_append_left (by omega)]
/-- from position to code -/
theorem kX_of {x x' : rX} {v' : gd_D} (hX : kX v T n m x) (hf : fr fA v v') (hP : kP v' T n m (xy x')) (h : ∀ p L, x' = Sum.inr (p, L) → ∃ q, x = Sum.inr (q, L)) : kX v' T n m x' := by
  cases x' with
  | inl e => exact hP
  | inr q =>
    obtain ⟨p, L⟩ := q
    obtain ⟨q, e⟩ := h p L rfl
    subst e
    exact ⟨hP, hX.2.A hf⟩
def kFac (g : ab_E) (T : Nat → Int32) (n m : Nat) (M : ab_M) (D : Int32) (f : Nat → List Nat → rX) (dp : Nat) : Prop := ∀ (d : Nat) (v : gd_D) (Q : ab_O → gd_D → Prop) (x : rX), dp ≤ d → kX v T n m x → xok T n x → (∀ v', fr fQ v v' → kX v' T n m (xb x f) → Q (Sum.inl none) v') → gd_C g M d 0 0 [zR 7 0, zI D] v Q
theorem k_prod {D : Int32} {f : Nat → List Nat → rX} {dp b : Nat} (hdp : 2 ≤ dp) (hn : n ≤ 500) (hF : kFac g T n m mX7_readFactor D f dp) (hg : gF T n b f) : kFac g T n m mX7_readProduct D (pP T n f) (dp + 1) := by
  intro d v Q x hd hX hx hQ
  have loop : ∀ (k i : Nat) (y : rX) (u : gd_D), i + k = n → kX u T n m y → xok T n y → (∀ p L, y = Sum.inr (p, L) → i ≤ p) → fr fQ v u → (∀ v', fr fQ v v' → kX v' T n m (xb y (pPl T n f k)) → Q (Sum.inl none) v') → gd_G g mX7_readProduct d 0 0 7 [(0, zR 7 0), (1, zI D), (2, zI (nI i))] [] u Q := by
    intro k
    induction k with
    | zero =>
      intro i y u hi hY hy hle fu hq
      have fin : Q (Sum.inl none) u := hq u fu (by
        cases y with
        | inl e => exact hY
        | inr q => exact hY)
      refine w_X7_readProduct_7 (e := dp) hd (by omega) ⟨fun _ => fin, fun _ => k_isNext (by decide) (by decide) hY.P ?_⟩
      rw [gd_rI_at]
      refine ⟨fun _ => fin, fun z => ?_⟩
      exfalso
      have z := b2_1 z
      cases y with
      | inl e => cases z
      | inr q =>
        have z : decide (q.1 < n ∧ T q.1 = 42) = true := z
        have := (of_decide_eq_true z).1
        have := hle q.1 q.2 rfl
        omega
    | succ k ih =>
      intro i y u hi hY hy hle fu hq
      refine w_X7_readProduct_7 (e := dp) hd (by omega) (pk_le 500 i (fun q => absurd q (by omega)) (fun _ => k_isNext (by decide) (by decide) hY.P ?_) rfl rfl (by omega) (by omega))
      rw [gd_rI_at]
      refine ⟨fun z => hq u fu ?_, fun z => ?_⟩
      · have z := b2_0 z
        cases y with
        | inl e => exact hY
        | inr q =>
          obtain ⟨p, L⟩ := q
          have z : decide (p < n ∧ T p = 42) = false := z
          rw [xb_r]
          show kX u T n m (if p < n ∧ T p = 42 then _ else _)
          rw [if_neg (of_decide_eq_false z)]
          exact hY
      · have z := b2_1 z
        cases y with
        | inl e => cases z
        | inr q =>
          obtain ⟨p, L⟩ := q
          have z : decide (p < n ∧ T p = 42) = true := z
          have hc := of_decide_eq_true z
          have hnx := nx_sp (T := T) hc.1
          have hpL := hy p L rfl
          have hip := hle p L rfl
          have est : xb (Sum.inr (p, L)) (pPl T n f (k + 1)) = xb (f (nx T n p) L) (fun q M => pPl T n f k q (M ++ [2000042])) := by
            rw [xb_r]
            show (if p < n ∧ T p = 42 then _ else _) = _
            rw [if_pos hc]
          refine k_advance hY.1 (fun q e => by cases e; exact hc.1) (fun u1 f1 P1 => ?_)
          rw [gd_rV_at]
          have X1 : kX u1 T n m (Sum.inr (nx T n p, L)) := ⟨P1, hY.2.A f1⟩
          refine hF dp u1 _ _ (Nat.le_refl _) X1 (fun q M e => by cases e; exact ⟨hnx.2, by omega⟩) (fun u2 f2 X2 => ?_)
          rw [gd_rV_at]
          rw [xb_r] at X2
          have g2 := hg (nx T n p) L hnx.2
          refine k_write (c := 2000042) X2 (fun q _ => by decide) (fun q M e => ?_) (fun u3 f3 X3 => ?_)
          · rw [e] at g2
            obtain ⟨a1, a2, C, e2, a3, -, -⟩ := g2
            have e2 : M = L ++ C := e2
            have a3 : C.length + nx T n p ≤ q := a3
            have a2 : q ≤ n := a2.1
            rw [e2, List.length_append]; omega
          · rw [gd_rV_at, nu_1]
            have fu3 : fr fQ v u3 := ((fu.tr (f1.wk fA_Q)).tr f2).tr f3
            refine ih (i + 1) _ u3 (by omega) X3 (fun q M e => ?_) (fun q M e => ?_) fu3 (fun v' fv Xv => hq v' fv ?_)
            · cases hfx : f (nx T n p) L with
              | inl e2 => rw [hfx] at e; cases e
              | inr r =>
                rw [hfx] at e g2
                obtain ⟨a1, a2, C, e2, a3, -, -⟩ := g2
                have a3 : C.length + nx T n p ≤ r.1 := a3
                cases e
                refine ⟨a2, ?_⟩
                have e2 : r.2 = L ++ C := e2
                rw [List.length_append, e2, List.length_append, List.length_singleton]; omega
            · cases hfx : f (nx T n p) L with
              | inl e2 => rw [hfx] at e; cases e
              | inr r =>
                rw [hfx] at e g2
                cases e
                have := g2.1
                omega
            · rw [est]
              cases hfx : f (nx T n p) L with
              | inl e2 => rw [hfx] at Xv; exact Xv
              | inr r => rw [hfx] at Xv; exact Xv
  refine c_X7_readProduct (e := dp) hd (Nat.zero_le _) (hF dp v _ x (Nat.le_refl _) hX hx (fun v1 f1 X1 => ?_))
  rw [gd_rV_at]
  refine loop n 0 _ v1 (by omega) X1 ?_ (fun p L _ => Nat.zero_le _) f1 (fun v' fv Xv => hQ v' fv ?_)
  · cases x with
    | inl e => exact xok_l
    | inr q =>
      obtain ⟨p, L⟩ := q
      exact xok_g (hg p L (hx p L rfl).1) (hx p L rfl).2
  · cases x with
    | inl e => exact Xv
    | inr q => exact Xv
theorem k_sum {D : Int32} {f : Nat → List Nat → rX} {dp b : Nat} (hdp : 2 ≤ dp) (hn : n ≤ 500) (hF : kFac g T n m mX7_readFactor D f dp) (hg : gF T n b f) : kFac g T n m mX7_readSum D (pS T n f) (dp + 2) := by
  have hP := k_prod hdp hn hF hg
  have hgP := pP_g hg
  intro d v Q x hd hX hx hQ
  have loop : ∀ (k i : Nat) (y : rX) (u : gd_D), i + k = n → kX u T n m y → xok T n y → (∀ p L, y = Sum.inr (p, L) → i ≤ p) → fr fQ v u → (∀ v', fr fQ v v' → kX v' T n m (xb y (pSl T n f k)) → Q (Sum.inl none) v') → gd_G g mX7_readSum d 0 0 7 [(0, zR 7 0), (1, zI D), (2, zI (nI i))] [] u Q := by
    intro k
    induction k with
    | zero =>
      intro i y u hi hY hy hle fu hq
      have fin : Q (Sum.inl none) u := hq u fu (by
        cases y with
        | inl e => exact hY
        | inr q => exact hY)
      have no : ∀ c : Int32, yN T n c (xy y) = false := fun c => by
        cases y with
        | inl e => rfl
        | inr q =>
          show decide (q.1 < n ∧ T q.1 = c) = false
          have := hle q.1 q.2 rfl
          exact decide_eq_false (fun z => by omega)
      refine w_X7_readSum_7 (e := dp + 1) hd (by omega) ⟨fun _ => fin, fun _ => k_isNext (by decide) (by decide) hY.P ?_⟩
      rw [gd_rI_at, no]
      refine ⟨fun z => absurd rfl z, fun _ => k_isNext (by decide) (by decide) hY.P ?_⟩
      rw [gd_rI_at, no]
      exact ⟨fun _ => fin, fun z => absurd rfl z⟩
    | succ k ih =>
      intro i y u hi hY hy hle fu hq
      have step : ∀ (c : Nat) (s0 : Int32) (p : Nat) (L : List Nat), y = Sum.inr (p, L) → p < n → (c = 2000043 ∨ c = 2000045) → s0 = cr_s c → xb (Sum.inr (p, L)) (pSl T n f (k + 1)) = xb (pP T n f (nx T n p) L) (fun q M => pSl T n f k q (M ++ [c])) → wp_X7_readSum_48 g d (dp + 1) D (nI i) s0 u Q := by
        intro c s0 p L ey hlt hc es est
        subst ey
        have hnx := nx_sp (T := T) hlt
        have hpL := hy p L rfl
        have hip := hle p L rfl
        refine k_advance hY.1 (fun q e => by cases e; exact hlt) (fun u1 f1 P1 => ?_)
        rw [gd_rV_at]
        have X1 : kX u1 T n m (Sum.inr (nx T n p, L)) := ⟨P1, hY.2.A f1⟩
        refine hP (dp + 1) u1 _ _ (Nat.le_refl _) X1 (fun q M e => by cases e; exact ⟨hnx.2, by omega⟩) (fun u2 f2 X2 => ?_)
        rw [gd_rV_at]
        rw [xb_r] at X2
        have g2 := hgP (nx T n p) L hnx.2
        refine k_write (c := c) X2 (fun q _ => es) (fun q M e => ?_) (fun u3 f3 X3 => ?_)
        · rw [e] at g2
          obtain ⟨a1, a2, C, e2, a3, -, -⟩ := g2
          have e2 : M = L ++ C := e2
          have a3 : C.length + nx T n p ≤ q := a3
          have a2 : q ≤ n := a2.1
          rw [e2, List.length_append]; omega
        · rw [gd_rV_at, nu_1]
          have fu3 : fr fQ v u3 := ((fu.tr (f1.wk fA_Q)).tr f2).tr f3
          refine ih (i + 1) _ u3 (by omega) X3 (fun q M e => ?_) (fun q M e => ?_) fu3 (fun v' fv Xv => hq v' fv ?_)
          · cases hfx : pP T n f (nx T n p) L with
            | inl e2 => rw [hfx] at e; cases e
            | inr r =>
              rw [hfx] at e g2
              obtain ⟨a1, a2, C, e2, a3, -, -⟩ := g2
              have a3 : C.length + nx T n p ≤ r.1 := a3
              cases e
              refine ⟨a2, ?_⟩
              have e2 : r.2 = L ++ C := e2
              rw [List.length_append, e2, List.length_append, List.length_singleton]; omega
          · cases hfx : pP T n f (nx T n p) L with
            | inl e2 => rw [hfx] at e; cases e
            | inr r =>
              rw [hfx] at e g2
              cases e
              have := g2.1
              omega
          · rw [est]
            cases hfx : pP T n f (nx T n p) L with
            | inl e2 => rw [hfx] at Xv; exact Xv
            | inr r => rw [hfx] at Xv; exact Xv
      refine w_X7_readSum_7 (e := dp + 1) hd (by omega) (pk_le 500 i (fun q => absurd q (by omega)) (fun _ => k_isNext (by decide) (by decide) hY.P ?_) rfl rfl (by omega) (by omega))
      rw [gd_rI_at]
      refine ⟨fun z => ?_, fun z => k_isNext (by decide) (by decide) hY.P ?_⟩
      · have z := b2_1 z
        cases y with
        | inl e => cases z
        | inr q =>
          obtain ⟨p, L⟩ := q
          have z' : decide (p < n ∧ T p = 43) = true := z
          have hc := of_decide_eq_true z'
          refine k_isNext (by decide) (by decide) hY.P ?_
          rw [gd_rI_at, z]
          refine ⟨fun q => absurd q (by decide), fun _ => step 2000043 _ p L rfl hc.1 (Or.inl rfl) (by decide) ?_⟩
          rw [xb_r]
          show (if p < n ∧ T p = 43 then _ else _) = _
          rw [if_pos hc]
      · have z := b2_0 z
        rw [gd_rI_at]
        refine ⟨fun z2 => hq u fu ?_, fun z2 => ?_⟩
        · have z2 := b2_0 z2
          cases y with
          | inl e => exact hY
          | inr q =>
            obtain ⟨p, L⟩ := q
            have z : decide (p < n ∧ T p = 43) = false := z
            have z2 : decide (p < n ∧ T p = 45) = false := z2
            rw [xb_r]
            show kX u T n m (if p < n ∧ T p = 43 then _ else if p < n ∧ T p = 45 then _ else _)
            rw [if_neg (of_decide_eq_false z), if_neg (of_decide_eq_false z2)]
            exact hY
        · have z2 := b2_1 z2
          cases y with
          | inl e => cases z2
          | inr q =>
            obtain ⟨p, L⟩ := q
            have z3 : decide (p < n ∧ T p = 45) = true := z2
            have z4 : decide (p < n ∧ T p = 43) = false := z
            have hc := of_decide_eq_true z3
            refine k_isNext (by decide) (by decide) hY.P ?_
            rw [gd_rI_at, z]
            refine ⟨fun _ => step 2000045 _ p L rfl hc.1 (Or.inr rfl) (by decide) ?_, fun q => absurd rfl q⟩
            rw [xb_r]
            show (if p < n ∧ T p = 43 then _ else if p < n ∧ T p = 45 then _ else _) = _
            rw [if_neg (of_decide_eq_false z4), if_pos hc]
  refine c_X7_readSum (e := dp + 1) hd (Nat.zero_le _) (hP (dp + 1) v _ x (Nat.le_refl _) hX hx (fun v1 f1 X1 => ?_))
  rw [gd_rV_at]
  refine loop n 0 _ v1 (by omega) X1 ?_ (fun p L _ => Nat.zero_le _) f1 (fun v' fv Xv => hQ v' fv ?_)
  · cases x with
    | inl e => exact xok_l
    | inr q =>
      obtain ⟨p, L⟩ := q
      exact xok_g (hgP p L (hx p L rfl).1) (hx p L rfl).2
  · cases x with
    | inl e => exact Xv
    | inr q => exact Xv
end KR
