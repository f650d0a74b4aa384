/-! TEXT, the class's side: dealers, sales, rules, lines -/
section KM
variable {g : ab_E} {d : Nat} {v : gd_D} {Q : ab_O → gd_D → Prop} {T : Nat → Int32} {n m : Nat}
theorem kP.e {v' : gd_D} {y : rY} (hP : kP v T n m y) (h7 : ∀ j, (j = 3 ∨ j = 4 ∨ j = 10 ∨ j = 11) → v'.1 7 0 j = v.1 7 0 j) (h32 : v'.1 32 0 = v.1 32 0) (h33 : v'.1 33 0 = v.1 33 0) (h34 : v'.1 34 0 = v.1 34 0) : kP v' T n m y := by
  obtain ⟨⟨a1, a2, a3, a4, a5, a6⟩, k, hk, hk2, h3⟩ := hP
  refine ⟨⟨a1, a2, a3, a4, by rw [h7 10 (by omega)]; exact a5, fun q hq => ?_⟩, k, hk, by rw [h7 11 (by omega)]; exact hk2, ?_⟩
  · unfold tok_1
    rw [h32, h33, h34]; exact a6 q hq
  · cases y with
    | inl e =>
      show 1 ≤ e.1 ∧ e.1 ≤ 4 ∧ v'.1 7 0 3 = nI e.1 ∧ v'.1 7 0 4 = nI e.2
      rw [h7 3 (by omega), h7 4 (by omega)]; exact h3
    | inr p =>
      show v'.1 7 0 3 = 0 ∧ v'.1 7 0 4 = -1 ∧ PS T n k = p
      rw [h7 3 (by omega), h7 4 (by omega)]; exact h3
theorem kP.dead {e : Nat × Nat} (hP : kP v T n m (Sum.inl e)) : ¬ v.1 7 0 3 = 0 := fun q => by
  obtain ⟨p, h⟩ := hP.f.mp q
  cases h
theorem kP.live {p : Nat} (hP : kP v T n m (Sum.inr p)) : v.1 7 0 3 = 0 := hP.f.mpr ⟨p, rfl⟩
theorem k_tnD {a b c : Int32} {e : Nat × Nat} (hd : 3 ≤ d) (hP : kP v T n m (Sum.inl e)) (hQ : Q (Sum.inl (some (zI (-1)))) v) : gd_C g mX7_takeNumber d 0 0 [zR 7 0, zI a, zI b, zI c] v Q := c_X7_takeNumber hd ⟨fun q => absurd q hP.dead, fun _ => hQ⟩
theorem k_readDealer {p : Nat} {u : uT} (hd : 4 ≤ d) (hP : kP v T n m (Sum.inr p)) (hlt : p < n) (hR : cr_R v 0 u.1) (hs : kS v u.2) (hc : kZ v u.2) (hu : uOK u) (hQ : ∀ v', frL v v' → kU v' T n m (pDeal T n p u) → Q (Sum.inl none) v') : gd_C g mX7_readDealer d 0 0 [zR 7 0] v Q := by
  have h8 := hu.1.1
  have h24 := hu.1.2.1
  refine c_X7_readDealer hd (pk_lt (Hh u.1 0) 8 (fun hl8 => ?_) (fun hge => ?_) (hR.1 0 (by omega)) rfl (by omega) (by omega))
  · have ep : pDeal T n p u = nb (pNum T n 0 10000 none (nx T n p)) (fun w q => Sum.inr (q, (h_addd u.1 w, u.2))) := if_neg (by omega)
    refine k_advance hP (fun q e => by cases e; exact hlt) (fun v1 f1 P1 => ?_)
    rw [gd_rV_at]
    refine k_takeNumber (a := 0) (hx := 10000) (o := none) (by omega) (by decide) (fun z h => by cases h) (Nat.le_refl 3) P1 (fun p _ => rfl) (fun v2 e he f2 P2 => ?_) (fun v2 w q he f2 P2 => ?_)
    · rw [gd_rI_at]
      have he : pNum T n 0 10000 none (nx T n p) = Sum.inl e := he
      refine ⟨fun _ => hQ v2 ((fA_L f1).tr (fA_L f2)) ?_, fun z => absurd z P2.dead⟩
      rw [ep, he]; exact P2
    · rw [gd_rI_at]
      have he : pNum T n 0 10000 none (nx T n p) = Sum.inr (w, q) := he
      have f12 : fr fQ v v2 := (f1.wk fA_Q).tr (f2.wk fA_Q)
      refine ⟨fun z => absurd P2.live z, fun _ => k_addDealer (Nat.le_refl 3) (hR.fq hu.1 f12) hl8 h24 (fun v3 f3 R3 => ?_)⟩
      rw [gd_rV_at]
      refine hQ v3 (((fA_L f1).tr (fA_L f2)).tr (f3.L (fun k i j q => Or.inr (Or.inr q)))) ?_
      rw [ep, he, nb_r]
      exact ⟨P2.hh f3 fh_k, R3, (hs.A f12).hh f3 fh_k, ((hc.A f1).A f2).hh f3 fh_k⟩
  · refine k_refuse (w := 3) (by omega) (by omega) hP (fun v1 f1 P1 => ?_)
    rw [gd_rV_at]
    refine hQ v1 (fA_L f1) ?_
    rw [show pDeal T n p u = Sum.inl (3, p) from if_pos hge]
    exact P1
theorem k_readSale {p : Nat} {u : uT} (hd : 4 ≤ d) (hP : kP v T n m (Sum.inr p)) (hlt : p < n) (hR : cr_R v 0 u.1) (hs : kS v u.2) (hc : kZ v u.2) (hu : uOK u) (hQ : ∀ v', frL v v' → kU v' T n m (pSale T n p u) → Q (Sum.inl none) v') : gd_C g mX7_readSale d 0 0 [zR 7 0] v Q := by
  have h8 := hu.1.1
  have h24 := hu.1.2.1
  have eD : ∀ v' : gd_D, fr fQ v v' → (v'.1 2 0 2 - 1).toInt = (Hh u.1 0 : Int) - 1 := fun v' f => by
    rw [show v'.1 2 0 2 = nI (Hh u.1 0) from (hR.fq hu.1 f).1 0 (by omega), show (1 : Int32) = nI 1 from rfl, pk_sub_toInt (by omega) (by omega)]; rfl
  refine c_X7_readSale hd (pk_lt (Hh u.1 1) 24 (fun hl24 => ?_) (fun hge => ?_) (hR.1 1 (by omega)) rfl (by omega) (by omega))
  · have ep : pSale T n p u = nb (pNum T n 0 (Hh u.1 0) none (nx T n p)) (fun a q1 => nb (pNum T n 0 (Hh u.1 0) (some a) q1) (fun b q2 => nb (pNum T n 1 1001 none q2) (fun un q3 => nb (pNum T n 1 10001 none q3) (fun pr q4 => nb (pNum T n 0 1000 none q4) (fun t q5 => Sum.inr (q5, (h_adds u.1 a b un pr t, u.2))))))) := if_neg (by omega)
    refine k_advance hP (fun q e => by cases e; exact hlt) (fun v0 f0 P0 => ?_)
    rw [gd_rV_at]
    have g0 : fr fQ v v0 := f0.wk fA_Q
    refine k_takeNumber (a := 0) (hx := Hh u.1 0) (o := none) (by omega) (eD v0 g0) (fun z h => by cases h) (Nat.le_refl 3) P0 (fun p _ => rfl) (fun v1 e he f1 P1 => ?_) (fun v1 a q1 he f1 P1 => ?_)
    · have he : pNum T n 0 (Hh u.1 0) none (nx T n p) = Sum.inl e := he
      rw [gd_rI_at]
      refine k_tnD (Nat.le_refl 3) P1 (k_tnD (Nat.le_refl 3) P1 (k_tnD (Nat.le_refl 3) P1 (k_tnD (Nat.le_refl 3) P1 ⟨fun _ => hQ v1 ((fA_L f0).tr (fA_L f1)) ?_, fun z => absurd z P1.dead⟩)))
      rw [ep, he]; exact P1
    have he1 : pNum T n 0 (Hh u.1 0) none (nx T n p) = Sum.inr (a, q1) := he
    have ha := (pNum_r he1).2.2.1
    have g1 : fr fQ v v1 := g0.tr (f1.wk fA_Q)
    rw [gd_rI_at]
    refine k_takeNumber (a := 0) (hx := Hh u.1 0) (o := some a) (by omega) (eD v1 g1) (fun z h => by cases h; omega) (Nat.le_refl 3) P1 (fun p _ => rfl) (fun v2 e he f2 P2 => ?_) (fun v2 b q2 he f2 P2 => ?_)
    · have he : pNum T n 0 (Hh u.1 0) (some a) q1 = Sum.inl e := he
      rw [gd_rI_at]
      refine k_tnD (Nat.le_refl 3) P2 (k_tnD (Nat.le_refl 3) P2 (k_tnD (Nat.le_refl 3) P2 ⟨fun _ => hQ v2 (((fA_L f0).tr (fA_L f1)).tr (fA_L f2)) ?_, fun z => absurd z P2.dead⟩))
      rw [ep, he1, nb_r, he]; exact P2
    have he2 : pNum T n 0 (Hh u.1 0) (some a) q1 = Sum.inr (b, q2) := he
    have g2 : fr fQ v v2 := g1.tr (f2.wk fA_Q)
    rw [gd_rI_at]
    refine k_takeNumber (a := 1) (hx := 1001) (o := none) (by omega) (by decide) (fun z h => by cases h) (Nat.le_refl 3) P2 (fun p _ => rfl) (fun v3 e he f3 P3 => ?_) (fun v3 un q3 he f3 P3 => ?_)
    · have he : pNum T n 1 1001 none q2 = Sum.inl e := he
      rw [gd_rI_at]
      refine k_tnD (Nat.le_refl 3) P3 (k_tnD (Nat.le_refl 3) P3 ⟨fun _ => hQ v3 ((((fA_L f0).tr (fA_L f1)).tr (fA_L f2)).tr (fA_L f3)) ?_, fun z => absurd z P3.dead⟩)
      rw [ep, he1, nb_r, he2, nb_r, he]; exact P3
    have he3 : pNum T n 1 1001 none q2 = Sum.inr (un, q3) := he
    have g3 : fr fQ v v3 := g2.tr (f3.wk fA_Q)
    rw [gd_rI_at]
    refine k_takeNumber (a := 1) (hx := 10001) (o := none) (by omega) (by decide) (fun z h => by cases h) (Nat.le_refl 3) P3 (fun p _ => rfl) (fun v4 e he f4 P4 => ?_) (fun v4 pr q4 he f4 P4 => ?_)
    · have he : pNum T n 1 10001 none q3 = Sum.inl e := he
      rw [gd_rI_at]
      refine k_tnD (Nat.le_refl 3) P4 ⟨fun _ => hQ v4 (((((fA_L f0).tr (fA_L f1)).tr (fA_L f2)).tr (fA_L f3)).tr (fA_L f4)) ?_, fun z => absurd z P4.dead⟩
      rw [ep, he1, nb_r, he2, nb_r, he3, nb_r, he]; exact P4
    have he4 : pNum T n 1 10001 none q3 = Sum.inr (pr, q4) := he
    have g4 : fr fQ v v4 := g3.tr (f4.wk fA_Q)
    rw [gd_rI_at]
    refine k_takeNumber (a := 0) (hx := 1000) (o := none) (by omega) (by decide) (fun z h => by cases h) (Nat.le_refl 3) P4 (fun p _ => rfl) (fun v5 e he f5 P5 => ?_) (fun v5 t q5 he f5 P5 => ?_)
    · have he : pNum T n 0 1000 none q4 = Sum.inl e := he
      rw [gd_rI_at]
      refine ⟨fun _ => hQ v5 ((((((fA_L f0).tr (fA_L f1)).tr (fA_L f2)).tr (fA_L f3)).tr (fA_L f4)).tr (fA_L f5)) ?_, fun z => absurd z P5.dead⟩
      rw [ep, he1, nb_r, he2, nb_r, he3, nb_r, he4, nb_r, he]; exact P5
    have he5 : pNum T n 0 1000 none q4 = Sum.inr (t, q5) := he
    have g5 : fr fQ v v5 := g4.tr (f5.wk fA_Q)
    rw [gd_rI_at]
    refine ⟨fun z => absurd P5.live z, fun _ => k_addSale (hR.fq hu.1 g5) hl24 h8 (fun v6 f6 R6 => ?_)⟩
    rw [gd_rV_at]
    refine hQ v6 (((((((fA_L f0).tr (fA_L f1)).tr (fA_L f2)).tr (fA_L f3)).tr (fA_L f4)).tr (fA_L f5)).tr (f6.L (fun k i j q => Or.inr (Or.inr q)))) ?_
    rw [ep, he1, nb_r, he2, nb_r, he3, nb_r, he4, nb_r, he5, nb_r]
    exact ⟨P5.hh f6 fh_k, R6, (hs.A g5).hh f6 fh_k, ((((((hc.A f0).A f1).A f2).A f3).A f4).A f5).hh f6 fh_k⟩
  · refine k_refuse (w := 3) (by omega) (by omega) hP (fun v1 f1 P1 => ?_)
    rw [gd_rV_at]
    refine hQ v1 (fA_L f1) ?_
    rw [show pSale T n p u = Sum.inl (3, p) from if_pos hge]
    exact P1
/-- the line of a rule -/
theorem k_ruleLine {p b c : Nat} {u : uT} (hP : kP v T n m (Sum.inr p)) (hlt : p < n) (hR : cr_R v 0 u.1) (hs : kS v u.2) (hc : kZ v u.2) (hu : uOK u) (hb : u.2 7 = false → 1 ≤ b ∧ 500 ≤ c) (hQ : ∀ v', frL v v' → kU v' T n m (pRule T n p u) → Q (Sum.inl none) v') : gd_C g mX7_takeOnce 3 0 0 [zR 7 0, zI (nI 7)] v (gd_rV (fun v17 => gd_C g mX7_readSum 40 0 0 [zR 7 0, zI (nI 0)] v17 (gd_rV (fun v19 => ∃ my sy, (my ≤ b ∧ sy ≤ c) ∧ gd_C g mX7_keepRule 4 my sy [zR 7 0] v19 (gd_rV (fun v21 => Q (Sum.inl none) v21) (fun E v9 => Q (Sum.inr E) v9))) (fun E v9 => Q (Sum.inr E) v9))) (fun E v9 => Q (Sum.inr E) v9)) := by
  have hn5 : n ≤ 500 := hP.1.1
  have hnx := nx_sp (T := T) hlt
  refine k_takeOnce (j := 7) (Nat.le_refl 3) (by omega) (by omega) hP hlt hs (fun v1 z f1 P1 => ?_) (fun v1 z f1o P1 S1 => ?_)
  · rw [gd_rV_at]
    refine k_readSum (x := Sum.inl (1, p)) hn5 (by omega) P1 xok_l (fun v4 f4 X4 => ?_)
    rw [gd_rV_at]
    have X4 : kP v4 T n m (Sum.inl (1, p)) := X4
    refine ⟨b, c, ⟨Nat.le_refl _, Nat.le_refl _⟩, c_X7_keepRule (Nat.le_refl 4) ⟨fun _ => hQ v4 ((fA_L f1).tr (f4.L (fun k i j q => Or.inl q))) ?_, fun q => absurd q X4.dead⟩⟩
    rw [show pRule T n p u = Sum.inl (1, p) from if_pos z]
    exact X4
  · rw [gd_rV_at]
    have f1 := f1o.wk fO_Q
    have c91 : v1.1 7 0 9 = nI 0 := (f1o.1 7 0 9 (fun q => by
      rcases q with q | q
      · have := q.2.2; omega
      · exact absurd q.2.2 (by decide))).1.trans (hc z)
    have X3 : kX v1 T n m (Sum.inr (nx T n p, [])) := ⟨P1, c91, fun i hi => absurd hi (by show ¬ i < 0; omega)⟩
    have ep : pRule T n p u = match pS T n (pF T n 5) (nx T n p) [] with
        | Sum.inl e => Sum.inl e
        | Sum.inr q => Sum.inr (q.1, (hsC u.1 q.2, su u.2 7)) := if_neg (by rw [z]; exact Bool.false_ne_true)
    refine k_readSum hn5 (by omega) X3 (fun q M e => by cases e; exact ⟨hnx.2, Nat.zero_le _⟩) (fun v4 f4 X4 => ?_)
    rw [gd_rV_at]
    rw [xb_r] at X4
    have L4 : frL v v4 := (f1.L (fun k i j q => by
      rcases q with q | q
      · exact Or.inl q
      · exact Or.inr (Or.inl q))).tr (f4.L (fun k i j q => Or.inl q))
    have hg := pS_g (pF_g (T := T) (n := n) 5) (nx T n p) [] hnx.2
    cases hx : pS T n (pF T n 5) (nx T n p) [] with
    | inl e =>
      rw [hx] at X4 ep
      have X4 : kP v4 T n m (Sum.inl e) := X4
      refine ⟨b, c, ⟨Nat.le_refl _, Nat.le_refl _⟩, c_X7_keepRule (Nat.le_refl 4) ⟨fun _ => hQ v4 L4 ?_, fun q => absurd q X4.dead⟩⟩
      rw [ep]; exact X4
    | inr q =>
      obtain ⟨q, C⟩ := q
      rw [hx] at X4 ep hg
      obtain ⟨g1, g2, D, eD, g3, -, -⟩ := hg
      have eD : C = D := eD
      subst eD
      have g3 : C.length + nx T n p ≤ q := g3
      have g2 : q ≤ n := g2.1
      have R1 : cr_R v1 0 u.1 := hR.far hu.1 f1 (fun i j q => by
        rcases q with q | q
        · exact fQ_no (by decide) (by decide) q
        · exact absurd q.1 (by decide)) (fun i j q => by
        rcases q with q | q
        · exact fQ_no (by decide) (by decide) q
        · exact absurd q.1 (by decide)) (fun i j q => by
        rcases q with q | q
        · exact fQ_no (by decide) (by decide) q
        · exact absurd q.1 (by decide)) (fun i j q => by
        rcases q with q | q
        · exact fQ_no (by decide) (by decide) q
        · exact absurd q.1 (by decide))
      have R4 : cr_R v4 0 u.1 := R1.fq hu.1 f4
      have S4 : kS v4 (su u.2 7) := S1.A f4
      obtain ⟨P4, c1, c2⟩ := X4
      have c1 : v4.1 7 0 9 = nI C.length := c1
      have c2 : ∀ i, i < C.length → v4.1 35 0 i = cr_s (C.getD i 0) := c2
      have hnc : 0 < v4.2.2.2.1 := Nat.lt_of_le_of_lt (Nat.zero_le _) R4.2.2.2.2.1
      refine ⟨b, c, ⟨Nat.le_refl _, Nat.le_refl _⟩, c_X7_keepRule (Nat.le_refl 4) ?_⟩
      unfold wp_X7_keepRule
      rw [c1]
      refine ⟨fun z => absurd P4.live z, fun _ => ⟨hb z, c_copyOf (Nat.le_refl 3) (by omega) hnc ⟨rfl, ?_⟩⟩⟩
      rintro _ rfl
      refine hQ _ (L4.tr ?_) ?_
      · refine ⟨fun k i j hx => ⟨?_, rfl⟩, fun x hx => if_neg hx, Nat.le_succ _, fun i hi => if_neg (by omega), rfl⟩
        show (if k = 15 ∧ i = v4.2.2.2.1 then _ else v4.1 k i j) = _
        rw [if_neg (fun q => hx (Or.inr (Or.inr (Or.inr ⟨q.1, by omega⟩))))]
      · rw [ep]
        have i8 : ∀ k i, ¬ k = 15 → (gd_sC (gd_cp v4 C.length) 0 v4.2.2.2.1).1 k i = v4.1 k i := fun k i hk => by
          funext j
          show (if k = 15 ∧ i = v4.2.2.2.1 then _ else v4.1 k i j) = _
          rw [if_neg (fun q => hk q.1)]
        refine ⟨P4.e (fun j _ => by rw [i8 7 0 (by decide)]) (i8 32 0 (by decide)) (i8 33 0 (by decide)) (i8 34 0 (by decide)), ?_, fun j h3 h7 => by rw [i8 7 0 (by decide)]; exact S4 j h3 h7, fun h => absurd ((su_at (se := u.2) (j := 7)).symm.trans h) (by decide)⟩
        obtain ⟨a1, a2, a3, a4, a5, a6, a7⟩ := R4
        refine ⟨fun j hj => by rw [i8 2 0 (by decide)]; exact a1 j hj, a2, fun i hi => by rw [i8 0 _ (by decide)]; exact a3 i hi, fun i hi j hj => by rw [i8 9 _ (by decide)]; exact a4 i hi j hj, ?_, ?_, fun k hk => ?_⟩
        · show v4.2.2.2.1 < v4.2.2.2.1 + 1
          omega
        · show (if v4.2.2.2.1 = v4.2.2.2.1 then C.length else _) = C.length
          rw [if_pos rfl]
        · have hk : k < C.length := hk
          show (if 15 = 15 ∧ v4.2.2.2.1 = v4.2.2.2.1 then (if k < C.length then v4.1 35 0 k else 0) else _) = cr_s (C.getD k 0)
          rw [if_pos hk]
          exact (if_pos ⟨rfl, rfl⟩).trans (c2 k hk)
theorem wcode_inv : ∀ w, w < 15 → ∀ c, c < 8 → 1 ≤ c → wcode w = nI c → w + 1 = c := by decide +kernel
theorem wcode_out : ∀ w, w < 15 → ((wcode w).toInt < 1 ∨ 7 < (wcode w).toInt) → 7 ≤ w := by decide +kernel
theorem pLine_no {p : Nat} {u : uT} (h : 7 ≤ wi T n p) : pLine T n p u = Sum.inl (1, p) := by
  unfold pLine
  rw [if_neg (by omega), if_neg (by omega), if_neg (by omega), if_neg (by omega), if_neg (by omega), if_neg (by omega), if_neg (by omega)]
theorem k_readLine {p b c : Nat} {u : uT} (hd : 41 ≤ d) (hP : kP v T n m (Sum.inr p)) (hlt : p < n) (hst : stt T n p) (hR : cr_R v 0 u.1) (hs : kS v u.2) (hc : kZ v u.2) (hu : uOK u) (hb : wi T n p = 6 → u.2 7 = false → 1 ≤ b ∧ 500 ≤ c) (hQ : ∀ v', frL v v' → kU v' T n m (pLine T n p u) → Q (Sum.inl none) v') : gd_C g mX7_readLine d b c [zR 7 0] v Q := by
  have hn5 : n ≤ 500 := hP.1.1
  have hw := wi_le T n p
  obtain ⟨ht, k, hk, hk2, e3, e4, e5⟩ := id hP
  have hm := ht.2.1
  obtain ⟨t1, t2, t3⟩ := ht.2.2.2.2.2 k hk
  rw [e5] at t1 t3
  have hk3 := tk_le (T := T) (n := n) (p := p)
  have ref : 7 ≤ wi T n p → gd_C g mX7_refuse 2 0 0 [zR 7 0, zI (nI 1)] v (gd_rV (fun v19 => Q (Sum.inl none) v19) (fun E v9 => Q (Sum.inr E) v9)) := fun h7 => k_refuse (w := 1) (by omega) (by omega) hP (fun v1 f1 P1 => by
    rw [gd_rV_at]
    refine hQ v1 (fA_L f1) ?_
    rw [pLine_no h7]; exact P1)
  refine c_X7_readLine hd ?_
  unfold wp_X7_readLine
  rw [hk2, nI_clamp (by omega), t1, t3, show (1 : Int32) = nI 1 from rfl, nI_eq (by omega) (by omega)]
  refine ⟨nu_in (by omega) (by omega), fun q => ?_, fun q => ⟨nu_in (by omega) (by omega), ?_⟩⟩
  · have h7 : 7 ≤ wi T n p := by
      apply Nat.le_of_not_lt
      intro z
      exact q (wi_tk hst.1 (by omega))
    exact ⟨fun z => absurd z (by decide), fun z => absurd z (by decide), fun z => absurd z (by decide), fun z => absurd z (by decide), fun z => absurd z (by decide), fun z => absurd z (by decide), fun z => absurd z (by decide), fun _ => ref h7⟩
  · rw [tw_word q]
    have one : ∀ (j lo hx : Nat) (hi : Int32), (j = 4 ∨ j = 5 ∨ j = 6 ∨ j = 3) → lo ≤ 1 → hi.toInt = (hx : Int) - 1 → pLine T n p u = pOne T n j lo hx p u → gd_C g mX7_readOnce 4 0 0 [zR 7 0, zI (nI (ln j)), zI (nI lo), zI hi] v (gd_rI (fun (r6 : Int32) v5 => ∀ v7 : gd_D, v7 = gd_sI v5 2 0 (j + 2) r6 → Q (Sum.inl none) v7) (fun E v9 => Q (Sum.inr E) v9)) := by
      intro j lo hx hi hj hlo hhi ep
      refine k_readOnce (u := u) (Nat.le_refl 4) (by omega) (by omega) hlo hhi hP hlt hs (fun v1 e he f1o P1 => ?_) (fun v1 w q he f1o P1 S1 => ?_)
      · have f1 := f1o.wk fO_Q
        rw [gd_rI_at]
        rintro _ rfl
        have f2 : fr (fh 0) v1 (gd_sI v1 2 0 (j + 2) (-1)) := fr.sI fh2
        refine hQ _ ((f1.L (fun k i j q => by
          rcases q with q | q
          · exact Or.inl q
          · exact Or.inr (Or.inl q))).tr (f2.L (fun k i j q => Or.inr (Or.inr q)))) ?_
        rw [ep, he]
        exact P1.hh f2 fh_k
      · have f1 := f1o.wk fO_Q
        rw [gd_rI_at]
        rintro _ rfl
        have f2 : fr (fh 0) v1 (gd_sI v1 2 0 (j + 2) (nI w)) := fr.sI fh2
        have R1 : cr_R v1 0 u.1 := hR.far hu.1 f1 (fun i j q => by
          rcases q with q | q
          · exact fQ_no (by decide) (by decide) q
          · exact absurd q.1 (by decide)) (fun i j q => by
          rcases q with q | q
          · exact fQ_no (by decide) (by decide) q
          · exact absurd q.1 (by decide)) (fun i j q => by
          rcases q with q | q
          · exact fQ_no (by decide) (by decide) q
          · exact absurd q.1 (by decide)) (fun i j q => by
          rcases q with q | q
          · exact fQ_no (by decide) (by decide) q
          · exact absurd q.1 (by decide))
        refine hQ _ ((f1.L (fun k i j q => by
          rcases q with q | q
          · exact Or.inl q
          · exact Or.inr (Or.inl q))).tr (f2.L (fun k i j q => Or.inr (Or.inr q)))) ?_
        rw [ep, he]
        exact ⟨P1.hh f2 fh_k, cr_sH R1 (by omega), S1.hh f2 fh_k, (kZ.O (by omega) hc f1o).hh f2 fh_k⟩
    have lt15 : wi T n p < 15 := by omega
    refine ⟨fun z => ?_, fun z => ?_, fun z => ?_, fun z => ?_, fun z => ?_, fun z => ?_, fun z => ?_, fun z => ref (wcode_out _ lt15 z)⟩
    · have e := wcode_inv _ lt15 1 (by omega) (by omega) z
      have ep : pLine T n p u = pDeal T n p u := if_pos (by omega)
      refine k_readDealer (Nat.le_refl 4) hP hlt hR hs hc hu (fun v1 f1 U1 => ?_)
      rw [gd_rV_at]
      exact hQ v1 f1 (by rw [ep]; exact U1)
    · have e := wcode_inv _ lt15 2 (by omega) (by omega) z
      have ep : pLine T n p u = pSale T n p u := by unfold pLine; rw [if_neg (by omega), if_pos (by omega)]
      refine k_readSale (Nat.le_refl 4) hP hlt hR hs hc hu (fun v1 f1 U1 => ?_)
      rw [gd_rV_at]
      exact hQ v1 f1 (by rw [ep]; exact U1)
    · have e := wcode_inv _ lt15 3 (by omega) (by omega) z
      exact one 4 0 1000 _ (by omega) (by omega) (by decide) (by unfold pLine; rw [if_neg (by omega), if_neg (by omega), if_pos (by omega)])
    · have e := wcode_inv _ lt15 4 (by omega) (by omega) z
      exact one 5 1 101 _ (by omega) (by omega) (by decide) (by unfold pLine; rw [if_neg (by omega), if_neg (by omega), if_neg (by omega), if_pos (by omega)])
    · have e := wcode_inv _ lt15 5 (by omega) (by omega) z
      exact one 6 0 31 _ (by omega) (by omega) (by decide) (by unfold pLine; rw [if_neg (by omega), if_neg (by omega), if_neg (by omega), if_neg (by omega), if_pos (by omega)])
    · have e := wcode_inv _ lt15 6 (by omega) (by omega) z
      exact one 3 1 10001 _ (by omega) (by omega) (by decide) (by unfold pLine; rw [if_neg (by omega), if_neg (by omega), if_neg (by omega), if_neg (by omega), if_neg (by omega), if_pos (by omega)])
    · have e := wcode_inv _ lt15 7 (by omega) (by omega) z
      have ep : pLine T n p u = pRule T n p u := by unfold pLine; rw [if_neg (by omega), if_neg (by omega), if_neg (by omega), if_neg (by omega), if_neg (by omega), if_neg (by omega), if_pos (by omega)]
      exact k_ruleLine hP hlt hR hs hc hu (hb (by omega)) (fun v1 f1 U1 => hQ v1 f1 (by rw [ep]; exact U1))
end KM
