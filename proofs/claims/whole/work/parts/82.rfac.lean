/-! TEXT, the reference's side: factors -/
section RF
variable {g : ab_E} {d : Nat} {v : gd_D} {Q : ab_O → gd_D → Prop} {T : Nat → Int32} {n : Nat}
theorem c_partWord {j : Nat} (hj : j < 7) (h : Q (Sum.inl (some (zR 100 (7 + j)))) v) : gd_C g mX11_partWord d 0 0 [zI (nI j)] v Q := by
  refine c_X11_partWord (Nat.zero_le _) ⟨fun e => ?_, fun e => ?_, fun e => ?_, fun e => ?_, fun e => ?_, fun e => ?_, fun e => ?_⟩
  · have e := nu_eq (k := 0) (by omega) (by omega) e; subst e; exact h
  · have e := nu_eq (k := 1) (by omega) (by omega) e; subst e; exact h
  · have e := nu_eq (k := 2) (by omega) (by omega) e; subst e; exact h
  · have e := nu_eq (k := 3) (by omega) (by omega) e; subst e; exact h
  · have e := nu_eq (k := 4) (by omega) (by omega) e; subst e; exact h
  · have e := nu_eq (k := 5) (by omega) (by omega) e; subst e; exact h
  · rw [nI_toInt (by omega)] at e
    have e : j = 6 := by omega
    subst e; exact h
/-- a word is passed -/
theorem r_passesWord {i p : Nat} (hi : i < 14) (hd : 8 ≤ d) (hP : rP v T n (Sum.inr p)) (hp : p ≤ n) (h1 : ∀ v', wi T n p = i → fr fD1 v v' → rP v' T n (Sum.inr (nx T n p)) → Q (Sum.inl (some (zI 1))) v') (h0 : ∀ v', ¬ wi T n p = i → fr fD1 v v' → rE v' T n p → Q (Sum.inl (some (zI 0))) v') : gd_C g mX11_passesWord d 0 0 [zR 11 0, zR 100 i] v Q := by
  obtain ⟨ht, h, hh, e0, e3, e4⟩ := id hP
  have hn := ht.1
  have hl : tx_n i < 100 := (tx_all i hi).1
  refine c_X11_passesWord hd (pk_lt 0 0 (fun q => absurd q (by omega)) (fun _ => r_isHere hi (Nat.le_refl 7) hP (fun v1 f1 E1 => ?_)) rfl e3 (by omega) (by omega))
  rw [gd_rI_at]
  refine ⟨fun z => ?_, fun z => h0 v1 (of_decide_eq_false (b2_0 z)) f1 E1⟩
  have hw := of_decide_eq_true (b2_1 z)
  obtain ⟨t1, hh1, hf1, hst⟩ := id E1
  obtain ⟨te1, hlt⟩ := te_word hi hp hw
  have hte := te_sp (T := T) hlt
  rintro _ rfl _ rfl
  rw [hh1, show (Int32.ofNat (ab_tn.getD i 0)) = nI (tx_n i) from rfl, nI_add]
  have f2 : fr fD1 v1 (gd_sI v1 11 0 11 (nI (p + tx_n i))) := fr.sI ⟨rfl, rfl, rfl⟩
  refine h1 _ hw (f1.tr f2) ⟨rT.D t1 (f2.wk fD1_D), p + tx_n i, sI_at, by omega, by rw [sI_ne (by omega)]; exact hf1, ?_⟩
  unfold nx
  rw [te1]
/-- a nest is opened at p -/
theorem r_opens0 {p : Nat} (hd : 3 ≤ d) (hE : rE v T n p) (ho : v.1 11 0 16 = nI 5) (hlt : p < n) (h : ∀ v', fr fJ v v' → rP v' T n (Sum.inl (4, p)) → Q (Sum.inl (some (zI 0))) v') : gd_C g mX11_opens d 0 0 [zR 11 0] v Q := by
  obtain ⟨t1, hh1, hf1, hst⟩ := id hE
  have hn := t1.1
  refine c_X11_opens hd ⟨fun q => absurd ho q, fun _ => ?_⟩
  rw [hh1]
  refine r_wrong (w := 4) (by omega) (by omega) hE.P (fun v1 f1 e11 _ P1 => ?_)
  rw [gd_rV_at]
  intro v2 h2 v3 h3
  have P1 : rP v1 T n (Sum.inl (4, p)) := P1
  obtain ⟨ht, k, hk, e0, e1, e2, e3, e4⟩ := id P1
  have i2 : v2.1 11 0 11 = nI p := by rw [h2, sI_ne (by omega), e11, hh1]
  rw [i2, nu_1] at h3
  have f3 : fr fJ v1 v3 := by rw [h3, h2]; exact (fr.sI (Or.inr (Or.inl ⟨rfl, rfl, rfl⟩))).tr (fr.sI (Or.inl ⟨rfl, rfl, Or.inl rfl⟩))
  have i3 : ∀ j, ¬ j = 11 → ¬ j = 16 → v3.1 11 0 j = v1.1 11 0 j := fun j h1 h16 => by rw [h3, sI_ne (by omega), h2, sI_ne (by omega)]
  have P3 : rP v3 T n (Sum.inl (4, p)) := by
    refine ⟨⟨hn, by rw [i3 10 (by omega) (by omega)]; exact ht.2.1, fun j hj => by rw [h3, sI_ne (by omega), h2, sI_ne (by omega)]; exact ht.2.2 j hj⟩, p + 1, by rw [h3, sI_at], by omega, e1, e2, by rw [i3 13 (by omega) (by omega)]; exact e3, by rw [i3 14 (by omega) (by omega)]; exact e4⟩
  refine ⟨fun _ => h v3 ((f1.wk fD_J).tr f3) P3, fun q => ?_⟩
  rw [i3 13 (by omega) (by omega), e3] at q
  exact absurd q (nI_ne0 e1 (by omega))
theorem r_opens1 {p r : Nat} (hd : 3 ≤ d) (hE : rE v T n p) (hr : r < 5) (ho : v.1 11 0 16 = nI (4 - r)) (hlt : p < n) (hT : T p = 40 ∨ T p = 45) (h : ∀ v', fr fJ v v' → (∀ j, v'.2.1 41 0 j = v.2.1 41 0 j) → rP v' T n (Sum.inr (nx T n p)) → v'.1 11 0 16 = nI (5 - r) → Q (Sum.inl (some (zI 1))) v') : gd_C g mX11_opens d 0 0 [zR 11 0] v Q := by
  obtain ⟨t1, hh1, hf1, hst⟩ := id hE
  have hn := t1.1
  refine c_X11_opens hd ⟨fun _ => ?_, fun q => absurd (nu_eq (k := 5) (by omega) (by omega) (ho.symm.trans q)) (by omega)⟩
  intro v2 h2 v3 h3
  have i2 : v2.1 11 0 11 = nI p := by rw [h2, sI_ne (by omega), hh1]
  rw [i2, nu_1] at h3
  have f3 : fr fJ v v3 := by rw [h3, h2]; exact (fr.sI (Or.inr (Or.inl ⟨rfl, rfl, rfl⟩))).tr (fr.sI (Or.inl ⟨rfl, rfl, Or.inl rfl⟩))
  have i3 : ∀ j, ¬ j = 11 → ¬ j = 16 → v3.1 11 0 j = v.1 11 0 j := fun j h1 h16 => by rw [h3, sI_ne (by omega), h2, sI_ne (by omega)]
  have o3 : v3.1 11 0 16 = nI (5 - r) := by rw [h3, sI_ne (by omega), h2, sI_at, ho, nu_1, show 4 - r + 1 = 5 - r by omega]
  have P3 : rP v3 T n (Sum.inr (nx T n p)) := by
    refine ⟨⟨hn, by rw [i3 10 (by omega) (by omega)]; exact t1.2.1, fun j hj => by rw [h3, sI_ne (by omega), h2, sI_ne (by omega)]; exact t1.2.2 j hj⟩, p + 1, by rw [h3, sI_at], by omega, by rw [i3 13 (by omega) (by omega)]; exact hf1, ?_⟩
    unfold nx te
    rcases hT with q | q
    · rw [q, show isL 40 = false from by decide, if_neg Bool.false_ne_true, show isN 40 = false from by decide, if_neg Bool.false_ne_true]
    · rw [q, show isL 45 = false from by decide, if_neg Bool.false_ne_true, show isN 45 = false from by decide, if_neg Bool.false_ne_true]
  refine ⟨fun q => absurd ?_ q, fun _ => h v3 f3 (fun j => by rw [h3, h2]; rfl) P3 o3⟩
  rw [i3 13 (by omega) (by omega)]; exact hf1
/-- what a nest does, by what is left -/
def rNest (g : ab_E) (T : Nat → Int32) (n : Nat) (o : Int32) (rc : Option (Nat → List Nat → rX)) (dp : Nat) : Prop := ∀ (d : Nat) (v : gd_D) (Q : ab_O → gd_D → Prop) (p : Nat) (L : List Nat), dp + 1 ≤ d → rE v T n p → rC v L → L.length ≤ p → p < n → (T p = 40 ∨ T p = 45) → v.1 11 0 16 = o → (∀ v', fr fJ v v' → rXx v' T n (pN T n rc p L) → (∀ q, pN T n rc p L = Sum.inr q → v'.1 11 0 16 = o) → Q (Sum.inl none) v') →
  (T p = 40 → gd_C g mX11_opens 3 0 0 [zR 11 0] v (gd_rI (fun (r6 : Int32) v5 =>
                ((¬ (r6 : Int32) = 0) →
                  gd_C g mX11_expression dp 0 0 [zR 11 0] v5 (gd_rV (fun v7 =>
                    gd_C g mX11_needs 4 0 0 [zR 11 0, zI 41] v7 (gd_rV (fun v9 =>
                      ∀ v11 : gd_D, v11 = gd_sI v9 11 0 16 ((v9.1 11 0 16) - 1) →
                      Q (Sum.inl none) v11) (fun E v9 => Q (Sum.inr E) v9))) (fun E v9 => Q (Sum.inr E) v9))) ∧
                (((r6 : Int32) = 0) →
                  Q (Sum.inl none) v5)) (fun E v9 => Q (Sum.inr E) v9))) ∧
  (T p = 45 → gd_C g mX11_opens 3 0 0 [zR 11 0] v (gd_rI (fun (r2 : Int32) v1 =>
        ((¬ (r2 : Int32) = 0) →
          gd_C g mX11_factor dp 0 0 [zR 11 0] v1 (gd_rV (fun v3 =>
            ∀ v5 : gd_D, v5 = gd_sI v3 11 0 16 ((v3.1 11 0 16) - 1) →
            gd_C g mX11_code 2 0 0 [zR 11 0, zJ 2000110] v5 (gd_rV (fun v6 =>
              Q (Sum.inl none) v6) (fun E v9 => Q (Sum.inr E) v9))) (fun E v9 => Q (Sum.inr E) v9))) ∧
        (((r2 : Int32) = 0) →
          Q (Sum.inl none) v1)) (fun E v9 => Q (Sum.inr E) v9)))
theorem r_nest0 {dp : Nat} : rNest g T n (nI 5) none dp := by
  intro d v Q p L hd hE hC hl hlt hT ho hQ
  have fin : ∀ v', fr fJ v v' → rP v' T n (Sum.inl (4, p)) → Q (Sum.inl none) v' := fun v' f P => hQ v' f P (fun q h => by cases h)
  refine ⟨fun _ => r_opens0 (Nat.le_refl 3) hE ho hlt (fun v1 f1 P1 => ⟨fun q => absurd rfl q, fun _ => fin v1 f1 P1⟩), fun _ => r_opens0 (Nat.le_refl 3) hE ho hlt (fun v1 f1 P1 => ⟨fun q => absurd rfl q, fun _ => fin v1 f1 P1⟩)⟩
theorem rC.o {L : List Nat} {x : Int32} (h : rC v L) : rC (gd_sI v 11 0 16 x) L := h
theorem r_nestS {r dp b : Nat} {f : Nat → List Nat → rX} (hr : r < 5) (hdp : 3 ≤ dp) (hn : n ≤ 500) (hF : rFac g T n mX11_factor (nI (5 - r)) f dp) (hg : gF T n b f) : rNest g T n (nI (4 - r)) (some f) (dp + 2) := by
  intro d v Q p L hd hE hC hl hlt hT ho hQ
  have hX := r_expr hdp hn hF hg
  have hnx := nx_sp (T := T) hlt
  have dec : nI (5 - r) - 1 = nI (4 - r) := by rw [show 5 - r = 4 - r + 1 by omega]; exact nI_pred _
  refine ⟨fun h40 => r_opens1 (Nat.le_refl 3) hE hr ho hlt hT (fun v1 f1 j1 P1 o1 => ?_), fun h45 => r_opens1 (Nat.le_refl 3) hE hr ho hlt hT (fun v1 f1 j1 P1 o1 => ?_)⟩
  · refine ⟨fun _ => ?_, fun q => absurd q (by decide)⟩
    have X1 : rXx v1 T n (Sum.inr (nx T n p, L)) := ⟨P1, by unfold rC; exact ⟨(j1 7).trans hC.1, fun i hi => (j1 _).trans (hC.2 i hi)⟩⟩
    refine hX (dp + 2) v1 _ _ (Nat.le_refl _) X1 (fun q M e => by cases e; exact ⟨hnx.2, by omega⟩) (fun q _ => o1) (fun v2 f2 X2 o2 => ?_)
    rw [gd_rV_at]
    rw [xb_r] at X2 o2
    refine r_needs (by decide) (by decide) (by decide) (Nat.le_refl 4) X2.P (fun v3 f3 P3 => ?_)
    rw [gd_rV_at]
    rintro _ rfl
    have f4 : fr fJ v3 (gd_sI v3 11 0 16 (v3.1 11 0 16 - 1)) := fr.sI (Or.inr (Or.inl ⟨rfl, rfl, rfl⟩))
    have e4 : pN T n (some f) p L = xb (pS T n f (nx T n p) L) (pG T n 41) := if_pos h40
    refine hQ _ (((f1.tr f2).tr (f3.wk fD_J)).tr f4) ?_ (fun q e => ?_)
    · rw [e4]
      cases hx : pS T n f (nx T n p) L with
      | inl e => rw [hx] at P3; exact P3.o
      | inr q =>
        obtain ⟨q, M⟩ := q
        rw [hx] at P3 X2
        rw [xb_r]
        have P3 : rP v3 T n (yG T n 41 q) := P3
        unfold yG at P3
        unfold pG
        split
        · rename_i h
          rw [if_pos h] at P3; exact ⟨P3.o, (X2.2.D f3).o⟩
        · rename_i h
          rw [if_neg h] at P3; exact P3.o
    · rw [sI_at, o16 f3]
      cases hx : pS T n f (nx T n p) L with
      | inl e2 => rw [e4, hx] at e; cases e
      | inr q2 => rw [o2 q2 hx]; exact dec
  · refine ⟨fun _ => ?_, fun q => absurd q (by decide)⟩
    have X1 : rXx v1 T n (Sum.inr (nx T n p, L)) := ⟨P1, by unfold rC; exact ⟨(j1 7).trans hC.1, fun i hi => (j1 _).trans (hC.2 i hi)⟩⟩
    refine hF (dp + 2) v1 _ _ (by omega) X1 (fun q M e => by cases e; exact ⟨hnx.2, by omega⟩) (fun q _ => o1) (fun v2 f2 X2 o2 => ?_)
    rw [gd_rV_at]
    rw [xb_r] at X2 o2
    rintro _ rfl
    have f3 : fr fJ v2 (gd_sI v2 11 0 16 (v2.1 11 0 16 - 1)) := fr.sI (Or.inr (Or.inl ⟨rfl, rfl, rfl⟩))
    have e4 : pN T n (some f) p L = xb (f (nx T n p) L) (fun q M => Sum.inr (q, M ++ [2000110])) := if_neg (by rw [h45]; decide)
    have g2 := hg (nx T n p) L hnx.2
    have X3 : rXx (gd_sI v2 11 0 16 (v2.1 11 0 16 - 1)) T n (f (nx T n p) L) := by
      cases hx : f (nx T n p) L with
      | inl e =>
        rw [hx] at X2
        have X2 : rP v2 T n (Sum.inl e) := X2
        exact X2.o
      | inr q => rw [hx] at X2; exact ⟨X2.1.o, X2.2.o⟩
    refine r_code (c := 2000110) X3 (fun q _ => rfl) (fun q M e => ?_) (fun v4 f4 i4 X4 => ?_)
    · rw [e] at g2
      obtain ⟨a1, a2, C, e2, a3, -, -⟩ := g2
      have e2 : M = L ++ C := e2
      have a3 : C.length + nx T n p ≤ q := a3
      have a2 : q ≤ n := a2.1
      rw [e2, List.length_append]; omega
    · rw [gd_rV_at]
      refine hQ v4 (((f1.tr f2).tr f3).tr f4) (by rw [e4]; exact X4) (fun q e => ?_)
      rw [i4, sI_at]
      cases hx : f (nx T n p) L with
      | inl e2 => rw [e4, hx] at e; cases e
      | inr q2 => rw [o2 q2 hx]; exact dec
theorem r_facA {rc : Option (Nat → List Nat → rX)} {o : Int32} {dp : Nat} (hdp : 8 ≤ dp) (hn : n ≤ 500) (hN : rNest g T n o rc dp) : rFac g T n mX11_factor o (pFa T n rc) (dp + 1) := by
  intro d v Q x hd hX hx ho hQ
  cases x with
  | inl e =>
    obtain ⟨ht, k, hk, e0, e1, e2, e3, e4⟩ := id hX
    exact c_X11_factor (e := dp) hd (by omega) (pk_le e.1 0 (fun q => absurd q (by omega)) (fun _ => hQ v fr.rf hX (fun q h => by cases h)) e3 rfl (by omega) (by omega))
  | inr q =>
    obtain ⟨p, L⟩ := q
    obtain ⟨hst, hlen⟩ := hx p L rfl
    have o0 := ho _ rfl
    obtain ⟨hP, hC⟩ := id hX
    obtain ⟨ht, k, hk, e0, e3, e4⟩ := id hP
    rw [xb_r] at hQ
    refine c_X11_factor (e := dp) hd (by omega) (pk_le 0 0 (fun _ => r_sign hP (fun v1 x e q => by cases q) (fun v1 p' q f1 E1 => ?_)) (fun q => absurd q (by omega)) e3 rfl (by omega) (by omega))
    cases q
    rw [gd_rI_at]
    obtain ⟨t1, hh1, hf1, hst1⟩ := id E1
    have C1 : rC v1 L := hC.D (f1.wk fD1_D)
    have o1 : v1.1 11 0 16 = o := (o16 (f1.wk fD1_D)).trans o0
    rw [hh1]
    refine r_isFigure (T := T) (by have := hst.1; omega) t1 ?_
    rw [gd_rI_at]
    refine ⟨fun z => ?_, fun z => ?_⟩
    · have z := b2_0 z
      have tk2 : ¬ tk T n p = 2 := fun q => by
        have := tk_2.mp q
        rw [decide_eq_true this.1, this.2] at z; cases z
      have nk : T p = 40 ∨ T p = 45 → ¬ (tk T n p = 1 ∧ 7 ≤ wi T n p ∧ wi T n p < 14) := by
        intro h q
        have h1 := q.1
        have hlt := tk_lt h1 (by omega)
        unfold tk at h1
        rw [if_neg (by omega)] at h1
        rcases h with h | h
        · rw [h, show isL 40 = false from by decide, if_neg Bool.false_ne_true] at h1
          split at h1 <;> omega
        · rw [h, show isL 45 = false from by decide, if_neg Bool.false_ne_true] at h1
          split at h1 <;> omega
      have nestf : p < n → (T p = 40 ∨ T p = 45) → pFa T n rc p L = pN T n rc p L := fun hlt h => by
        unfold pFa
        rw [if_neg tk2, if_neg (nk h), if_pos ⟨hlt, h⟩]
      have words : ¬ (p < n ∧ (T p = 40 ∨ T p = 45)) → gd_G g mX11_factor d 0 0 132 [(0, zR 11 0), (2, zI (nI 0))] [] v1 Q := by
        intro hno
        have loop : ∀ (k j : Nat) (u : gd_D), j + k = 7 → (∀ z, z < j → ¬ wi T n p = 7 + z) → fr fD1 v1 u → rE u T n p → gd_G g mX11_factor d 0 0 132 [(0, zR 11 0), (2, zI (nI j))] [] u Q := by
          intro k
          induction k with
          | zero =>
            intro j u hj hz fu Eu
            have e : j = 7 := by omega
            subst e
            obtain ⟨tu, hhu, hfu, hstu⟩ := id Eu
            refine w_X11_factor_132 (e := dp) hd (by omega) (pk_le 7 7 (fun _ => ?_) (fun q => absurd q (by omega)) rfl rfl (by omega) (by omega))
            rw [hhu]
            refine r_wrong (w := 1) (by omega) (by omega) Eu.P (fun u2 f2 _ _ P2 => ?_)
            rw [gd_rV_at]
            have ef : pFa T n rc p L = Sum.inl (1, p) := by
              unfold pFa
              rw [if_neg tk2, if_neg (fun q => ?_), if_neg hno]
              exact hz (wi T n p - 7) (by omega) (by omega)
            rw [ef] at hQ
            exact hQ u2 (((f1.tr fu).wk fD1_J).tr (f2.wk fD_J)) P2 (fun q h => by cases h)
          | succ k ih =>
            intro j u hj hz fu Eu
            refine w_X11_factor_132 (e := dp) hd (by omega) (pk_le 7 j (fun q => absurd q (by omega)) (fun _ => c_partWord (by omega) ⟨rfl, ?_⟩) rfl rfl (by omega) (by omega))
            refine r_passesWord (i := 7 + j) (by omega) (Nat.le_refl 8) Eu.P hst.1 (fun u2 hw f2 P2 => ?_) (fun u2 hw f2 E2 => ?_)
            · rw [gd_rI_at]
              refine ⟨fun _ => ?_, fun q => absurd q (by decide)⟩
              have f12 : fr fD1 v u2 := (f1.tr fu).tr f2
              have X2 : rXx u2 T n (Sum.inr (nx T n p, L)) := ⟨P2, hC.D (f12.wk fD1_D)⟩
              have hlt := (te_word (T := T) (n := n) (p := p) (i := 7 + j) (by omega) hst.1 hw).2
              refine r_code (c := 3000000 + j) X2 (fun q _ => by rw [nu_l (by omega), nu_J 3000000, lN_add]) (fun q M e => by cases e; omega) (fun u3 f3 i3 X3 => ?_)
              rw [gd_rV_at]
              have ef : pFa T n rc p L = Sum.inr (nx T n p, L ++ [3000000 + j]) := by
                unfold pFa
                rw [if_neg tk2, if_pos ⟨wi_tk hst.1 (by omega), by omega, by omega⟩, hw, show 7 + j - 7 = j by omega]
              rw [ef] at hQ
              exact hQ u3 ((f12.wk fD1_J).tr f3) X3 (fun q _ => by rw [i3, o16 (f12.wk fD1_D)]; exact o0)
            · rw [gd_rI_at]
              refine ⟨fun q => absurd rfl q, fun _ => ?_⟩
              rw [nu_1]
              refine ih (j + 1) u2 (by omega) (fun y hy => ?_) (fu.tr f2) E2
              by_cases e : y = j
              · subst e; exact hw
              · exact hz y (by omega)
        exact loop 7 0 v1 (by omega) (fun z hz => absurd hz (by omega)) fr.rf E1
      have val : ∀ ch : Int32, ¬ ch = 0 → ((if p < n then T p else 0) = ch ↔ (p < n ∧ T p = ch)) := by
        intro ch h0
        by_cases hlt : p < n
        · rw [if_pos hlt]; exact ⟨fun q => ⟨hlt, q⟩, fun q => q.2⟩
        · rw [if_neg hlt]; exact ⟨fun q => absurd q.symm h0, fun q => absurd q.1 hlt⟩
      have F83 : ¬ (p < n ∧ T p = 40) → wp_X11_factor_83 g d dp (if p < n then T p else 0) v1 Q := by
        intro h40
        refine ⟨fun q => words (fun w => ?_), fun q => ?_⟩
        · rcases w.2 with w2 | w2
          · exact h40 ⟨w.1, w2⟩
          · exact q ((val 45 (by decide)).mpr ⟨w.1, w2⟩)
        · have h45 := (val 45 (by decide)).mp q
          refine pk_le n p (fun q => absurd q (by omega)) (fun _ => ?_) t1.2.1 hh1 (by omega) (by have := hst.1; omega)
          refine (hN d v1 Q p L hd E1 C1 hlen h45.1 (Or.inr h45.2) o1 (fun v' f' X' o' => hQ v' ((f1.wk fD1_J).tr f') ?_ (fun q e => o' q ?_))).2 h45.2
          · rw [nestf h45.1 (Or.inr h45.2)]; exact X'
          · rw [← nestf h45.1 (Or.inr h45.2)]; exact e
      refine ⟨fun q => F83 (fun w => q ((val 40 (by decide)).mpr w)), fun q => ?_⟩
      have h40 := (val 40 (by decide)).mp q
      refine pk_le n p (fun q => absurd q (by omega)) (fun _ => ?_) t1.2.1 hh1 (by omega) (by have := hst.1; omega)
      refine (hN d v1 Q p L hd E1 C1 hlen h40.1 (Or.inl h40.2) o1 (fun v' f' X' o' => hQ v' ((f1.wk fD1_J).tr f') ?_ (fun q e => o' q ?_))).1 h40.2
      · rw [nestf h40.1 (Or.inl h40.2)]; exact X'
      · rw [← nestf h40.1 (Or.inl h40.2)]; exact e
    · have z := b2_1 z
      rw [Bool.and_eq_true, decide_eq_true_iff] at z
      have tk2 := tk_2.mpr z
      refine r_number (a := 0) (hx := 10000) (by decide) (by omega) (Nat.le_refl 3) E1.P (fun v2 x e he f2 P2 => ?_) (fun v2 p' w q ep he f2 _ P2 => ?_)
      · rw [gd_rJ_at]
        have he : pNum T n 0 10000 none p = Sum.inl e := he
        refine r_code (c := 0) (x := Sum.inl e) P2 (fun q h => by cases h) (fun p L h => by cases h) (fun v3 f3 i3 X3 => ?_)
        rw [gd_rV_at]
        have ef : pFa T n rc p L = Sum.inl e := by
          unfold pNum at he
          rw [if_pos tk2] at he
          unfold pFa
          rw [if_pos tk2]
          split at he
          · cases he
          · rename_i hbad
            cases he
            rw [if_neg (fun z => hbad ⟨Nat.zero_le _, by omega, fun z => by cases z⟩)]
        rw [ef] at hQ
        exact hQ v3 (((f1.wk fD1_J).tr (f2.wk fD_J)).tr f3) X3 (fun q h => by cases h)
      · cases ep
        rw [gd_rJ_at]
        have f12 : fr fD v v2 := (f1.wk fD1_D).tr f2
        refine r_code (c := w) (x := Sum.inr (q, L)) ⟨P2, hC.D f12⟩ (fun q _ => rfl) (fun p' L' h => by cases h; omega) (fun v3 f3 i3 X3 => ?_)
        rw [gd_rV_at]
        have ef : pFa T n rc p L = Sum.inr (q, L ++ [w]) := by
          have he : pNum T n 0 10000 none p = Sum.inr (w, q) := he
          unfold pNum at he
          rw [if_pos tk2] at he
          unfold pFa
          rw [if_pos tk2]
          split at he
          · rename_i hgood
            cases he
            rw [if_pos (by omega)]
          · cases he
        rw [ef] at hQ
        exact hQ v3 ((f12.wk fD_J).tr f3) X3 (fun q _ => by rw [i3, o16 f12]; exact o0)
theorem r_fac (hn : n ≤ 500) : ∀ r, r ≤ 5 → rFac g T n mX11_factor (nI (5 - r)) (pF T n r) (9 + 3 * r)
  | 0, _ => r_facA (dp := 8) (by omega) hn r_nest0
  | r + 1, h => by
    have ih := r_fac hn r (by omega)
    have := r_nestS (r := r) (by omega) (by omega) hn ih (pF_g r)
    have e := r_facA (by omega) hn this
    rw [show 5 - (r + 1) = 4 - r by omega, show 9 + 3 * (r + 1) = 9 + 3 * r + 2 + 1 by omega]
    exact e
theorem r_expression {x : rX} (hn : n ≤ 500) (hd : 26 ≤ d) (hX : rXx v T n x) (hx : xok T n x) (ho : ∀ q, x = Sum.inr q → v.1 11 0 16 = nI 0) (hQ : ∀ v', fr fJ v v' → rXx v' T n (xb x (pS T n (pF T n 5))) → Q (Sum.inl none) v') : gd_C g mX11_expression d 0 0 [zR 11 0] v Q := r_expr (by omega) hn (r_fac hn 5 (Nat.le_refl 5)) (pF_g 5) d v Q x (by omega) hX hx ho (fun v' f X _ => hQ v' f X)
end RF
