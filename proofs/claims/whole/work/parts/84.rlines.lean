/-! TEXT, the reference's side: sales, rules, once, lines -/
section RLM
variable {g : ab_E} {d : Nat} {v : gd_D} {Q : ab_O → gd_D → Prop} {T : Nat → Int32} {n : Nat}
theorem r_s98D {e : Nat × Nat} {a1 : Int32} {a2 a4 : Int64} (hP : rP v T n (Sum.inl e)) (hQ : ∀ v', fr fD v v' → rP v' T n (Sum.inl e) → Q (Sum.inl none) v') : wp_X11_saleRead_98 g d a1 a2 a4 v Q := by
  refine r_nD (Nat.le_refl 3) hP (fun v1 x f1 P1 => ?_)
  rw [gd_rJ_at]
  refine r_nD (Nat.le_refl 3) P1 (fun v2 x f2 P2 => ?_)
  rw [gd_rJ_at]
  refine r_nD (Nat.le_refl 3) P2 (fun v3 x f3 P3 => ?_)
  rw [gd_rJ_at]
  exact ⟨fun z => absurd z P3.dead.2, fun _ => hQ v3 ((f1.tr f2).tr f3) P3⟩
theorem r_saleRead {p : Nat} {u : uT} (hd : 4 ≤ d) (hE : rE v T n p) (hw : wi T n p = 1) (hr : rd (v.2.1 41 0) u) (hc : rC v (Hc u.1)) (hu : uOK u) (hQ : ∀ v', fr fM v v' → rU v' T n (pSale T n p u) → Q (Sum.inl none) v') : gd_C g mX11_saleRead d 0 0 [zR 11 0] v Q := by
  have h8 := hu.1.1
  have h24 := hu.1.2.1
  obtain ⟨t1, hh1, hf1, hst⟩ := id hE
  have hn := t1.1
  have hp := hst.1
  obtain ⟨P1, f1, hlt⟩ := hE.w (by omega) hw
  have el : p + tx_n 1 = p + 4 := rfl
  rw [el] at P1 f1
  refine c_X11_saleRead hd ⟨nu_in (n := 1) (by decide) (by decide), ?_⟩
  rw [show ((1 : Int32)).toNatClampNeg = 1 from by decide, hr.2.1, nu_J 24, lN_eq (by omega) (by omega)]
  refine ⟨fun hN => ?_, fun hN => ?_⟩
  · have ep : pSale T n p u = nb (pNum T n 0 (Hh u.1 0) none (nx T n p)) (fun a q1 => nb (pNum T n 0 (Hh u.1 0) (some a) q1) (fun b q2 => nb (pNum T n 1 1001 none q2) (fun un q3 => nb (pNum T n 1 10001 none q3) (fun pr q4 => nb (pNum T n 0 1000 none q4) (fun t q5 => Sum.inr (q5, (h_adds u.1 a b un pr t, u.2))))))) := if_neg (by omega)
    intro v1 h1
    rw [hh1, nu_I 4, nI_add] at h1
    subst h1
    have r1 := hr.J f1
    have hiD : ∀ v' : gd_D, fr fD v v' → (v'.2.1 41 0 0 - 1).toInt = (Hh u.1 0 : Int) - 1 := fun v' f => by
      rw [(hr.J f).1]
      by_cases h0 : Hh u.1 0 = 0
      · rw [h0]; decide
      · rw [nu_J 1, lN_sub (by omega), lN_toInt (by omega)]; omega
    rw [show ((1 : Int32)).toNatClampNeg = 1 from by decide, show ((0 : Int32)).toNatClampNeg = 0 from by decide, r1.2.1, lN_i]
    refine ⟨nu_in (n := 1) (by decide) (by decide), ?_⟩
    rintro _ rfl
    rw [show (57 : Int32) + 9 * nI (Hh u.1 1) = nI (57 + 9 * Hh u.1 1) from by rw [nu_I 57, nu_I 9, pk_mul, nI_add]]
    refine ⟨nu_in (n := 0) (by decide) (by decide), r_number (a := 0) (hx := Hh u.1 0) (hiD _ f1) (by omega) (Nat.le_refl 3) P1 (fun v2 x e he f2 P2 => ?_) (fun v2 p' a q1 ep' he f2 _ P2 => ?_)⟩
    · rw [gd_rJ_at]
      have he : pNum T n 0 (Hh u.1 0) none (nx T n p) = Sum.inl e := he
      refine ⟨nu_in (n := 0) (by decide) (by decide), r_nD (Nat.le_refl 3) P2 (fun v3 x f3 P3 => ?_)⟩
      rw [gd_rJ_at]
      refine ⟨fun _ => r_s98D P3 (fun v4 f4 P4 => hQ v4 ((((f1.tr f2).tr f3).tr f4).wk fD_M) ?_), fun z => absurd z P3.dead.1⟩
      rw [ep, he]; exact P4
    cases ep'
    have he1 : pNum T n 0 (Hh u.1 0) none (nx T n p) = Sum.inr (a, q1) := he
    have ha := (pNum_r he1).2.2.1
    have g2 : fr fD v v2 := f1.tr f2
    rw [gd_rJ_at]
    refine ⟨nu_in (n := 0) (by decide) (by decide), r_number (a := 0) (hx := Hh u.1 0) (hiD _ g2) (by omega) (Nat.le_refl 3) P2 (fun v3 x e he f3 P3 => ?_) (fun v3 p' b q2 ep' he f3 b12 P3 => ?_)⟩
    · rw [gd_rJ_at]
      have he : pNum T n 0 (Hh u.1 0) none q1 = Sum.inl e := he
      have he2 : pNum T n 0 (Hh u.1 0) (some a) q1 = Sum.inl e := by
        unfold pNum at he ⊢
        split
        · rename_i h2
          rw [if_pos h2] at he
          split at he
          · cases he
          · rename_i hb
            cases he
            rw [if_neg (fun z => hb ⟨z.1, z.2.1, fun z => by cases z⟩)]
        · rename_i h2
          rw [if_neg h2] at he; exact he
      refine ⟨fun _ => r_s98D P3 (fun v4 f4 P4 => hQ v4 (((g2.tr f3).tr f4).wk fD_M) ?_), fun z => absurd z P3.dead.1⟩
      rw [ep, he1, nb_r, he2]; exact P4
    cases ep'
    have he2 : pNum T n 0 (Hh u.1 0) none q1 = Sum.inr (b, q2) := he
    obtain ⟨k1, k2, k3, -, k4⟩ := pNum_r he2
    have g3 : fr fD v v3 := g2.tr f3
    rw [gd_rJ_at]
    refine ⟨fun z => absurd P3.live.1 z, fun _ => ?_⟩
    rw [lN_eq (by omega) (by omega)]
    refine ⟨fun hab => ?_, fun hab => ?_⟩
    · have he3 : pNum T n 0 (Hh u.1 0) (some a) q1 = Sum.inr (b, q2) := by
        unfold pNum at he2 ⊢
        split at he2
        · rename_i h2
          rw [if_pos h2]
          split at he2
          · rename_i hg
            cases he2
            rw [if_pos ⟨hg.1, hg.2.1, fun q => hab (by injection q)⟩]
          · cases he2
        · cases he2
      refine r_number (a := 1) (hx := 1001) (by decide) (by omega) (Nat.le_refl 3) P3 (fun v4 x e he f4 P4 => ?_) (fun v4 p' un q3 ep' he f4 _ P4 => ?_)
      · rw [gd_rJ_at]
        have he : pNum T n 1 1001 none q2 = Sum.inl e := he
        refine r_nD (Nat.le_refl 3) P4 (fun v5 x f5 P5 => ?_)
        rw [gd_rJ_at]
        refine r_nD (Nat.le_refl 3) P5 (fun v6 x f6 P6 => ?_)
        rw [gd_rJ_at]
        refine ⟨fun z => absurd z P6.dead.2, fun _ => hQ v6 ((((g3.tr f4).tr f5).tr f6).wk fD_M) ?_⟩
        rw [ep, he1, nb_r, he3, nb_r, he]; exact P6
      cases ep'
      have he4 : pNum T n 1 1001 none q2 = Sum.inr (un, q3) := he
      have u1 := pNum_r he4
      have g4 : fr fD v v4 := g3.tr f4
      rw [gd_rJ_at]
      refine r_number (a := 1) (hx := 10001) (by decide) (by omega) (Nat.le_refl 3) P4 (fun v5 x e he f5 P5 => ?_) (fun v5 p' pr q4 ep' he f5 _ P5 => ?_)
      · rw [gd_rJ_at]
        have he : pNum T n 1 10001 none q3 = Sum.inl e := he
        refine r_nD (Nat.le_refl 3) P5 (fun v6 x f6 P6 => ?_)
        rw [gd_rJ_at]
        refine ⟨fun z => absurd z P6.dead.2, fun _ => hQ v6 (((g4.tr f5).tr f6).wk fD_M) ?_⟩
        rw [ep, he1, nb_r, he3, nb_r, he4, nb_r, he]; exact P6
      cases ep'
      have he5 : pNum T n 1 10001 none q3 = Sum.inr (pr, q4) := he
      have g5 : fr fD v v5 := g4.tr f5
      rw [gd_rJ_at]
      refine r_number (a := 0) (hx := 1000) (by decide) (by omega) (Nat.le_refl 3) P5 (fun v6 x e he f6 P6 => ?_) (fun v6 p' t q5 ep' he f6 _ P6 => ?_)
      · rw [gd_rJ_at]
        have he : pNum T n 0 1000 none q4 = Sum.inl e := he
        refine ⟨fun z => absurd z P6.dead.2, fun _ => hQ v6 ((g5.tr f6).wk fD_M) ?_⟩
        rw [ep, he1, nb_r, he3, nb_r, he4, nb_r, he5, nb_r, he]; exact P6
      cases ep'
      have he6 : pNum T n 0 1000 none q4 = Sum.inr (t, q5) := he
      have g6 : fr fD v v6 := g5.tr f6
      rw [gd_rJ_at]
      refine ⟨fun _ => ?_, fun z => absurd P6.live.2 z⟩
      have r6 := hr.J g6
      have c6 := hc.D g6
      rw [nu_I 0, nu_I 1, nu_I 2, nu_I 3, nu_I 4, nu_I 5, nI_add, nI_add, nI_add, nI_add, nI_add, nI_add, nI_clamp (by omega), nI_clamp (by omega), nI_clamp (by omega), nI_clamp (by omega), nI_clamp (by omega), nI_clamp (by omega), nI_clamp (by omega)]
      refine ⟨nu_in (by omega) (by omega), ?_⟩
      rintro _ rfl
      refine ⟨nu_in (by omega) (by omega), ?_⟩
      rintro _ rfl
      refine ⟨nu_in (by omega) (by omega), ?_⟩
      rintro _ rfl
      refine ⟨nu_in (by omega) (by omega), ?_⟩
      rintro _ rfl
      refine ⟨nu_in (by omega) (by omega), ?_⟩
      rintro _ rfl
      refine ⟨nu_in (by omega) (by omega), ?_⟩
      rintro _ rfl
      refine ⟨nu_in (by omega) (by omega), nu_in (by omega) (by omega), ?_⟩
      intro y h7
      have M41 : ∀ {j : Nat}, fM 41 0 j := Or.inr (Or.inr ⟨rfl, rfl⟩)
      have f7 : fr fM v6 y := by
        rw [h7]
        exact ((((((fr.sJ M41).tr (fr.sJ M41)).tr (fr.sJ M41)).tr (fr.sJ M41)).tr (fr.sJ M41)).tr (fr.sJ M41)).tr (fr.sJ M41)
      have zero : ∀ j, 6 ≤ j → j < 9 → v6.2.1 41 0 (57 + 9 * Hh u.1 1 + j) = 0 := fun j j6 j9 => by
        rw [r6.2.2.2.2.2.2 (Hh u.1 1) (by omega) j j9, if_neg (by omega)]
      have eX : ∀ q, ¬ q = 1 → ¬ (57 + 9 * Hh u.1 1 ≤ q ∧ q < 57 + 9 * Hh u.1 1 + 9) → y.2.1 41 0 q = v6.2.1 41 0 q := fun q q1 q2 => by
        rw [h7]
        repeat rw [sJ_ne (by omega)]
      refine hQ y ((g6.wk fD_M).tr f7) ?_
      rw [ep, he1, nb_r, he3, nb_r, he4, nb_r, he5, nb_r, he6, nb_r]
      refine ⟨P6.e (by rw [h7]; rfl), rd_adds r6 (by omega) h8 ?_ (fun j hj => ?_) eX, by rw [eX 7 (by omega) (by omega)]; exact c6.1, fun i hi => by rw [eX _ (by omega) (by omega)]; exact c6.2 i hi⟩
      · rw [h7, sJ_at]
        repeat rw [sJ_ne (by omega)]
        rw [r6.2.1]
        exact lN_add _ 1
      · rw [h7]
        have hcj : j = 0 ∨ j = 1 ∨ j = 2 ∨ j = 3 ∨ j = 4 ∨ j = 5 ∨ j = 6 ∨ j = 7 ∨ j = 8 := by omega
        rcases hcj with q | q | q | q | q | q | q | q | q <;> subst q <;> (repeat (first | rw [sJ_at] | rw [sJ_ne (by omega)])) <;> first | rfl | exact zero _ (by omega) (by omega)
    · rw [b12]
      refine r_wrong (w := 2) (by omega) (by omega) P3 (fun v4 f4 _ _ P4 => ?_)
      rw [gd_rV_at]
      have P4 : rP v4 T n (Sum.inl (2, q1)) := P4
      refine r_s98D P4 (fun v5 f5 P5 => hQ v5 (((g3.tr f4).tr f5).wk fD_M) ?_)
      have he3 : pNum T n 0 (Hh u.1 0) (some a) q1 = Sum.inl (2, q1) := by
        unfold pNum at he2 ⊢
        split at he2
        · rename_i h2
          rw [if_pos h2]
          split at he2
          · cases he2
            rw [if_neg (fun z => z.2.2 (by rw [hab]))]
          · cases he2
        · cases he2
      rw [ep, he1, nb_r, he3]; exact P5
  · rw [hh1]
    refine r_wrong (w := 3) (by omega) (by omega) hE.P (fun v1 g1 e11 _ Q1 => ?_)
    rw [gd_rV_at]
    have Q1 : rP v1 T n (Sum.inl (3, p)) := Q1
    intro v2 h2
    rw [e11, hh1, nu_I 4, nI_add] at h2
    subst h2
    have f2 : fr fD v1 (gd_sI v1 11 0 11 (nI (p + 4))) := fr.sI ⟨rfl, rfl, Or.inl rfl⟩
    refine ⟨nu_in (n := 1) (by decide) (by decide), ?_⟩
    rintro _ rfl
    refine ⟨nu_in (n := 0) (by decide) (by decide), r_nD (Nat.le_refl 3) (Q1.dd (h := p + 4) (by omega)) (fun v3 x f3 P3 => ?_)⟩
    rw [gd_rJ_at]
    refine ⟨nu_in (n := 0) (by decide) (by decide), r_nD (Nat.le_refl 3) P3 (fun v4 x f4 P4 => ?_)⟩
    rw [gd_rJ_at]
    refine ⟨fun _ => r_s98D P4 (fun v5 f5 P5 => hQ v5 (((((g1.tr f2).tr f3).tr f4).tr f5).wk fD_M) ?_), fun z => absurd z P4.dead.1⟩
    rw [show pSale T n p u = Sum.inl (3, p) from if_pos (by omega)]
    exact P5
end RLM
