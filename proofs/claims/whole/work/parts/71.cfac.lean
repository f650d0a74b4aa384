/-! TEXT, the class's side: factors and nests -/
section KFA
variable {g : ab_E} {d : Nat} {v : gd_D} {Q : ab_O → gd_D → Prop} {T : Nat → Int32} {n m : Nat}
def kNest (g : ab_E) (T : Nat → Int32) (n m : Nat) (D : Int32) (rc : Option (Nat → List Nat → rX)) (dp : Nat) : Prop := ∀ (d : Nat) (v : gd_D) (Q : ab_O → gd_D → Prop) (p : Nat) (L : List Nat), kX v T n m (Sum.inr (p, L)) → stt T n p → L.length ≤ p → p < n → (T p = 40 ∨ T p = 45) → (∀ v', fr fQ v v' → kX v' T n m (pN T n rc p L) → Q (Sum.inl none) v') → wp_X7_readFactor_100 g d dp D v Q
theorem cr_s_num {c : Nat} (h : c ≤ 9999) : cr_s c = nI c := if_pos (by omega)
theorem cr_s_word {w : Nat} (h1 : 7 ≤ w) (h2 : w < 14) : cr_s (3000000 + (w - 7)) = wcode w := by
  unfold cr_s wcode
  rw [if_neg (by omega), if_pos (by omega), if_neg (by omega), if_pos (by omega), show 3000000 + (w - 7) - 3000000 + 1 = w - 6 by omega]
theorem wcode_pos : ∀ w, w ≤ 14 → ((0 : Int32) ≤ wcode w ↔ ¬ (7 ≤ w ∧ w < 14)) := by
  intro w hw
  have : ∀ w, w < 15 → ((0 : Int32) ≤ wcode w ↔ ¬ (7 ≤ w ∧ w < 14)) := by decide +kernel
  exact this w (by omega)
theorem tw_word {p : Nat} (h : tk T n p = 1) : tw T n p = wcode (wi T n p) := by
  have hlt := tk_lt h (by omega)
  unfold tk at h
  unfold tw
  rw [if_neg (by omega)] at h ⊢
  cases h1 : isL (T p) with
  | true => rw [if_pos rfl]
  | false =>
    rw [h1, if_neg Bool.false_ne_true] at h
    split at h <;> omega
theorem k_facA {rc : Option (Nat → List Nat → rX)} {D : Int32} {dp : Nat} (hdp : 4 ≤ dp) (hN : kNest g T n m D rc dp) : kFac g T n m mX7_readFactor D (pFa T n rc) (dp + 1) := by
  intro d v Q x hd hX hx hQ
  have hP := hX.P
  have F74 : (∀ p L, x = Sum.inr (p, L) → ¬ tk T n p = 2 ∧ ¬ (tk T n p = 1 ∧ 7 ≤ wi T n p ∧ wi T n p < 14)) → wp_X7_readFactor_74 g d dp D v Q := by
    intro hno
    have nest : ∀ c : Int32, (c = 40 ∨ c = 45) → yN T n c (xy x) = true → wp_X7_readFactor_100 g d dp D v Q := by
      intro c hc z
      cases x with
      | inl e => cases z
      | inr q =>
        obtain ⟨p, L⟩ := q
        have z : decide (p < n ∧ T p = c) = true := z
        have hz := of_decide_eq_true z
        have h45 : T p = 40 ∨ T p = 45 := by rw [hz.2]; exact hc
        obtain ⟨n1, n2⟩ := hno p L rfl
        refine hN d v Q p L hX (hx p L rfl).1 (hx p L rfl).2 hz.1 h45 (fun v1 f1 X1 => hQ v1 f1 ?_)
        rw [xb_r]
        unfold pFa
        rw [if_neg n1, if_neg n2, if_pos ⟨hz.1, h45⟩]
        exact X1
    refine k_isNext (by decide) (by decide) hP ?_
    rw [gd_rI_at]
    refine ⟨fun z => nest 40 (Or.inl rfl) (b2_1 z), fun z => k_isNext (by decide) (by decide) hP ?_⟩
    rw [gd_rI_at]
    refine ⟨fun z2 => nest 45 (Or.inr rfl) (b2_1 z2), fun z2 => ?_⟩
    have z := b2_0 z
    have z2 := b2_0 z2
    refine k_refuse (w := 1) (by omega) (by omega) hP (fun v1 f1 P1 => ?_)
    rw [gd_rV_at]
    refine hQ v1 (f1.wk fA_Q) ?_
    cases x with
    | inl e => exact P1
    | inr q =>
      obtain ⟨p, L⟩ := q
      have z : decide (p < n ∧ T p = 40) = false := z
      have z2 : decide (p < n ∧ T p = 45) = false := z2
      obtain ⟨n1, n2⟩ := hno p L rfl
      rw [xb_r]
      unfold pFa
      rw [if_neg n1, if_neg n2, if_neg (fun h => by
        rcases h.2 with h2 | h2
        · exact of_decide_eq_false z ⟨h.1, h2⟩
        · exact of_decide_eq_false z2 ⟨h.1, h2⟩)]
      exact P1
  have hP2 := hP
  obtain ⟨ht, k, hk, hk2, h3⟩ := hP2
  have hm := ht.2.1
  have hn := ht.1
  obtain ⟨t1, t2, t3⟩ := ht.2.2.2.2.2 k hk
  have hk3 := tk_le (T := T) (n := n) (p := PS T n k)
  have in5 : vp_in (nI k) 501 := nu_in (by omega) (by omega)
  have at_p : ∀ p L, x = Sum.inr (p, L) → PS T n k = p := fun p L e => by subst e; exact h3.2.2
  refine c_X7_readFactor (e := dp) hd (by omega) ?_
  unfold wp_X7_readFactor
  rw [hk2, nI_clamp (by omega), t1, t3, show (2 : Int32) = nI 2 from rfl, nI_eq (by omega) (by omega), show (1 : Int32) = nI 1 from rfl, nI_eq (by omega) (by omega)]
  refine ⟨in5, fun q2 => ⟨in5, fun q1 => F74 (fun p L e => ?_), fun q1 => ⟨in5, fun qw => F74 (fun p L e => ?_), fun qw => ⟨in5, ?_⟩⟩⟩, fun q2 => ?_⟩
  · rw [← at_p p L e]; exact ⟨q2, fun z => q1 z.1⟩
  · rw [tw_word q1] at qw
    rw [← at_p p L e]
    exact ⟨q2, fun z => (wcode_pos _ (wi_le T n _)).mp qw z.2⟩
  · rw [tw_word q1] at qw ⊢
    have hw : 7 ≤ wi T n (PS T n k) ∧ wi T n (PS T n k) < 14 := Classical.byContradiction (fun z => qw ((wcode_pos _ (wi_le T n _)).mpr z))
    have hlt := tk_lt q1 (by omega)
    refine k_write (c := 3000000 + (wi T n (PS T n k) - 7)) hX (fun q _ => (cr_s_word hw.1 hw.2).symm) (fun p L e => ?_) (fun v1 f1 X1 => ?_)
    · have := at_p p L e
      have := (hx p L e).2
      omega
    · rw [gd_rV_at]
      refine k_advance X1.P (fun p e => ?_) (fun v2 f2 P2 => ?_)
      · cases x with
        | inl e2 => cases e
        | inr q =>
          obtain ⟨p', L⟩ := q
          cases e
          rw [← at_p p' L rfl]; exact hlt
      · rw [gd_rV_at]
        refine hQ v2 (f1.tr (f2.wk fA_Q)) ?_
        cases x with
        | inl e => exact P2
        | inr q =>
          obtain ⟨p, L⟩ := q
          have e := at_p p L rfl
          rw [e] at hw q1 q2 X1
          rw [xb_r]
          unfold pFa
          rw [if_neg q2, if_pos ⟨q1, hw⟩]
          refine ⟨P2, ?_⟩
          have X1 : kX v1 T n m (Sum.inr (p, L ++ [3000000 + (wi T n p - 7)])) := X1
          exact X1.2.A f2
  · refine k_takeNumber (a := 0) (hx := 10000) (o := none) (by omega) (by decide) (fun z h => by cases h) (Nat.le_refl 3) hP (fun p _ => rfl) (fun v1 e he f1 P1 => ?_) (fun v1 w q he f1 P1 => ?_)
    · rw [gd_rI_at]
      refine k_write (c := 0) (x := Sum.inl e) P1 (fun q h => by cases h) (fun p L h => by cases h) (fun v2 f2 X2 => ?_)
      rw [gd_rV_at]
      refine hQ v2 ((f1.wk fA_Q).tr f2) ?_
      cases x with
      | inl e2 => cases he; exact X2
      | inr q =>
        obtain ⟨p, L⟩ := q
        have ep := at_p p L rfl
        rw [ep] at q2
        have he : pNum T n 0 10000 none p = Sum.inl e := he
        unfold pNum at he
        rw [if_pos q2] at he
        split at he
        · cases he
        · rename_i hbad
          cases he
          rw [xb_r]
          unfold pFa
          rw [if_pos q2, if_neg (fun z => hbad ⟨Nat.zero_le _, by omega, fun z => by cases z⟩)]
          exact X2
    · rw [gd_rI_at]
      cases x with
      | inl e2 => cases he
      | inr q3 =>
        obtain ⟨p, L⟩ := q3
        have ep := at_p p L rfl
        rw [ep] at q2
        have hlt := tk_lt q2 (by omega)
        have he : pNum T n 0 10000 none p = Sum.inr (w, q) := he
        unfold pNum at he
        rw [if_pos q2] at he
        split at he
        · rename_i hgood
          cases he
          refine k_write (c := nm T n p) (x := Sum.inr (nx T n p, L)) ⟨P1, hX.2.A f1⟩ (fun q _ => (cr_s_num (by omega)).symm) (fun p' L' h => ?_) (fun v2 f2 X2 => ?_)
          · cases h
            have := (hx p L rfl).2
            omega
          · rw [gd_rV_at]
            refine hQ v2 ((f1.wk fA_Q).tr f2) ?_
            rw [xb_r]
            unfold pFa
            rw [if_pos q2, if_pos (by omega)]
            exact X2
        · cases he
theorem k_nest0 : kNest g T n m (nI 5) none 4 := by
  intro d v Q p L hX hp hl hlt hT hQ
  refine ⟨fun q => absurd q (by decide), fun _ => k_refuse (w := 4) (by omega) (by omega) hX.1 (fun v1 f1 P1 => ?_)⟩
  rw [gd_rV_at]
  exact hQ v1 (f1.wk fA_Q) P1
theorem k_nestS {r dp b : Nat} {f : Nat → List Nat → rX} (hr : r < 5) (hdp : 4 ≤ dp) (hn : n ≤ 500) (hF : kFac g T n m mX7_readFactor (nI (5 - r)) f dp) (hg : gF T n b f) : kNest g T n m (nI (4 - r)) (some f) (dp + 2) := by
  intro d v Q p L hX hp hl hlt hT hQ
  have hS := k_sum (by omega) hn hF hg
  have hnx := nx_sp (T := T) hlt
  have e1 : nI (4 - r) + 1 = nI (5 - r) := by rw [nu_1, show 4 - r + 1 = 5 - r by omega]
  unfold wp_X7_readFactor_100
  refine pk_lt (4 - r) 5 (fun _ => k_isNext (by decide) (by decide) hX.1 ?_) (fun q => absurd q (by omega)) rfl rfl (by omega) (by omega)
  rw [gd_rI_at, e1]
  refine ⟨fun z => ?_, fun z => ?_⟩
  · have z : decide (p < n ∧ T p = 40) = false := b2_0 z
    have h40 : ¬ T p = 40 := fun q => of_decide_eq_false z ⟨hlt, q⟩
    refine k_advance hX.1 (fun q e => by cases e; exact hlt) (fun v1 f1 P1 => ?_)
    rw [gd_rV_at]
    have X1 : kX v1 T n m (Sum.inr (nx T n p, L)) := ⟨P1, hX.2.A f1⟩
    refine hF (dp + 2) v1 _ _ (by omega) X1 (fun q M e => by cases e; exact ⟨hnx.2, by omega⟩) (fun v2 f2 X2 => ?_)
    rw [gd_rV_at]
    rw [xb_r] at X2
    have g2 := hg (nx T n p) L hnx.2
    refine k_write (c := 2000110) X2 (fun q _ => by decide) (fun q M e => ?_) (fun v3 f3 X3 => ?_)
    · rw [e] at g2
      obtain ⟨a1, a2, C, e2, a3, -, -⟩ := g2
      have e2 : M = L ++ C := e2
      have a3 : C.length + nx T n p ≤ q := a3
      have a2 : q ≤ n := a2.1
      rw [e2, List.length_append]; omega
    · rw [gd_rV_at]
      refine hQ v3 (((f1.wk fA_Q).tr f2).tr f3) ?_
      show kX v3 T n m (if T p = 40 then _ else _)
      rw [if_neg h40]
      exact X3
  · have z : decide (p < n ∧ T p = 40) = true := b2_1 z
    have h40 := (of_decide_eq_true z).2
    refine k_advance hX.1 (fun q e => by cases e; exact hlt) (fun v1 f1 P1 => ?_)
    rw [gd_rV_at]
    have X1 : kX v1 T n m (Sum.inr (nx T n p, L)) := ⟨P1, hX.2.A f1⟩
    refine hS (dp + 2) v1 _ _ (Nat.le_refl _) X1 (fun q M e => by cases e; exact ⟨hnx.2, by omega⟩) (fun v2 f2 X2 => ?_)
    rw [gd_rV_at]
    rw [xb_r] at X2
    refine k_take (by decide) (by decide) (Nat.le_refl 3) X2.P (fun v3 f3 P3 => ?_)
    rw [gd_rV_at]
    refine hQ v3 (((f1.wk fA_Q).tr f2).tr (f3.wk fA_Q)) ?_
    show kX v3 T n m (if T p = 40 then _ else _)
    rw [if_pos h40]
    refine kX_of X2 f3 ?_ (fun q M e => ?_)
    · cases hx : pS T n f (nx T n p) L with
      | inl e => rw [hx] at P3; exact P3
      | inr q =>
        obtain ⟨q, M⟩ := q
        rw [hx] at P3
        rw [xb_r]
        have P3 : kP v3 T n m (yG T n 41 q) := P3
        unfold yG at P3
        unfold pG
        split
        · rename_i h
          rw [if_pos h] at P3; exact P3
        · rename_i h
          rw [if_neg h] at P3; exact P3
    · cases hx : pS T n f (nx T n p) L with
      | inl e2 => rw [hx] at e; cases e
      | inr q2 =>
        obtain ⟨q2, M2⟩ := q2
        rw [hx, xb_r] at e
        unfold pG at e
        split at e
        · cases e; exact ⟨q2, rfl⟩
        · cases e
theorem k_fac (hn : n ≤ 500) : ∀ r, r ≤ 5 → kFac g T n m mX7_readFactor (nI (5 - r)) (pF T n r) (5 + 3 * r)
  | 0, _ => k_facA (by omega) k_nest0
  | r + 1, h => by
    have ih := k_fac hn r (by omega)
    have := k_nestS (r := r) (by omega) (by omega) hn ih (pF_g r)
    have e := k_facA (by omega) this
    rw [show 5 - (r + 1) = 4 - r by omega, show 5 + 3 * (r + 1) = 5 + 3 * r + 2 + 1 by omega]
    exact e
/-- a whole rule -/
theorem k_readSum {x : rX} (hn : n ≤ 500) (hd : 27 ≤ d) (hX : kX v T n m x) (hx : xok T n x) (hQ : ∀ v', fr fQ v v' → kX v' T n m (xb x (pS T n (pF T n 5))) → Q (Sum.inl none) v') : gd_C g mX7_readSum d 0 0 [zR 7 0, zI (nI 0)] v Q := k_sum (by omega) hn (k_fac hn 5 (Nat.le_refl 5)) (pF_g 5) d v Q x (by omega) hX hx hQ
end KFA
