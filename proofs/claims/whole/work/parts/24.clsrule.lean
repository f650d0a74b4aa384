/-! THE CLASS: a house in its cells; rule and order -/
/-- a step of the class's code for a code of the reference -/
def cr_s (c : Nat) : Int32 := if c < 2000000 then nI c else if 3000000 ≤ c then -(nI (c - 3000000 + 1)) else if c = 2000110 then -8 else if c = 2000043 then -9 else if c = 2000045 then -10 else -11
def cr_K (v : gd_D) (a : Nat) (l : List Nat) : Prop := a < v.2.2.2.1 ∧ v.2.2.2.2.1 a = l.length ∧ ∀ k, k < l.length → v.1 15 a k = cr_s (l.getD k 0)
/-- the class's house h holds the house -/
def cr_R (v : gd_D) (h : Nat) (H : hs_T) : Prop :=
  (∀ j, j < 7 → v.1 2 h (j + 2) = nI (Hh H j)) ∧ v.2.1 2 h 9 = Ho H ∧
  (∀ i, i < Hh H 0 → v.1 0 (8 * h + i) 0 = nI (Hd H i 0) ∧ v.1 0 (8 * h + i) 5 = nI (Hd H i 5) ∧ ∀ j, 1 ≤ j → j ≤ 4 → v.2.1 0 (8 * h + i) j = Hj H i j) ∧
  (∀ i, i < Hh H 1 → ∀ j, j < 9 → v.1 9 (24 * h + i) j = nI (Hs H i j)) ∧ cr_K v (v.2.2.1 h) (Hc H)
/-- changes within (kind, number) pairs -/
def fy (l : List (Nat × Nat)) (k i _ : Nat) : Prop := (k, i) ∈ l
theorem fy_n {l : List (Nat × Nat)} {k i j : Nat} (h : decide (k ∈ l.map Prod.fst) = false) : ¬ fy l k i j := fun q => of_decide_eq_false h (List.mem_map.mpr ⟨(k, i), q, rfl⟩)
theorem fy_y {l : List (Nat × Nat)} {k i j : Nat} (p : Nat) (h : l[p]? = some (k, i)) : fy l k i j := List.mem_of_getElem? h
theorem fy_1 {p : Nat × Nat} {m : List (Nat × Nat)} (n : Nat) (h : m[n]? = some p) : ∀ k i j, fy [p] k i j → fy m k i j := fun k i j q => by
  have e : (k, i) = p := List.mem_singleton.mp q
  show (k, i) ∈ m
  rw [e]; exact List.mem_of_getElem? h
theorem nu_neg {n : Nat} (h : n < 2 ^ 31) : (-(nI n)).toInt = -(n : Int) := sb_negT h
theorem cr_s_push {c : Nat} (h : rp_step c) (hp : c < 2000000 ∨ 3000000 ≤ c) : ¬ cr_s c ≤ -8 := by
  rw [Int32.le_iff_toInt_le]
  unfold cr_s
  rcases h with q | q | q | q | q | q
  · rw [if_pos (by omega), nI_toInt (by omega)]
    have : (-8 : Int32).toInt = -8 := by decide
    omega
  · rw [if_neg (by omega), if_pos (by omega), nu_neg (by omega)]
    have : (-8 : Int32).toInt = -8 := by decide
    omega
  · omega
  · omega
  · omega
  · omega
/-- a house is kept where nothing of it changes -/
theorem cr_R.kept {v v' : gd_D} {h : Nat} {H : hs_T} (hR : cr_R v h H) (h8 : Hh H 0 ≤ 8) (h24 : Hh H 1 ≤ 24) (h2 : v'.1 2 h = v.1 2 h ∧ v'.2.1 2 h = v.2.1 2 h) (h0 : ∀ i, i < 8 → v'.1 0 (8 * h + i) = v.1 0 (8 * h + i) ∧ v'.2.1 0 (8 * h + i) = v.2.1 0 (8 * h + i)) (h9 : ∀ i, i < 24 → v'.1 9 (24 * h + i) = v.1 9 (24 * h + i)) (hc : v'.2.2 = v.2.2) (h15 : v'.1 15 (v.2.2.1 h) = v.1 15 (v.2.2.1 h)) : cr_R v' h H := by
  obtain ⟨a1, a2, a3, a4, a5, a6, a7⟩ := hR
  refine ⟨fun j hj => by rw [h2.1]; exact a1 j hj, by rw [h2.2]; exact a2, fun i hi => ?_, fun i hi j hj => by rw [h9 i (by omega)]; exact a4 i hi j hj, ?_, ?_, fun k hk => ?_⟩
  · rw [(h0 i (by omega)).1, (h0 i (by omega)).2]; exact a3 i hi
  · rw [hc]; exact a5
  · rw [hc]; exact a6
  · rw [hc, h15]; exact a7 k hk
/-- .. in particular where the changes are of kinds that no house has -/
theorem cr_R.far {X : Nat → Nat → Nat → Prop} {v v' : gd_D} {h : Nat} {H : hs_T} (hR : cr_R v h H) (hW : hs_W H) (hf : fr X v v') (h2 : ∀ i j, ¬ X 2 i j) (h0 : ∀ i j, ¬ X 0 i j) (h9 : ∀ i j, ¬ X 9 i j) (h15 : ∀ i j, ¬ X 15 i j) : cr_R v' h H :=
  hR.kept hW.1 hW.2.1 ⟨hf.I (h2 h), hf.J (h2 h)⟩ (fun i _ => ⟨hf.I (h0 _), hf.J (h0 _)⟩) (fun i _ => hf.I (h9 _)) hf.2 (hf.I (h15 _))
section CL1
variable {g : ab_E} {d : Nat} {v : gd_D} {Q : ab_O → gd_D → Prop} {H : hs_T} {h : Nat}
theorem k_operand {s c : Nat} (hR : cr_R v h H) (hW : hs_W H) (hs : s < Hh H 1) (hc : rp_step c) (hp : c < 2000000 ∨ 3000000 ≤ c) (hQ : Q (Sum.inl (some (zJ (rp_a H s c)))) v) : gd_C g mX5_operand d 0 0 [zI (cr_s c), zR 2 h, zR 9 (24 * h + s)] v Q := by
  obtain ⟨s1, s2, -, s3, s4, s5, s6⟩ := hW.2.2.2.2.2.2.2.2.1 s hs
  have h8 := hW.1
  have hday := hW.2.2.1
  have rd := hR.2.2.2.1 s hs
  have tI : ∀ x : Int32, x = cr_s c → x.toInt = if c < 2000000 then (c : Int) else -((c - 3000000 + 1 : Nat) : Int) := by
    rintro _ rfl
    unfold cr_s
    rcases hp with q | q
    · rw [if_pos q, if_pos q, nI_toInt (by rcases hc with r | r | r | r | r | r <;> omega)]
    · have q2 : ¬ c < 2000000 := by omega
      simp only [if_neg q2, if_pos q]
      rw [nu_neg (by rcases hc with r | r | r | r | r | r <;> omega)]
  have hv := tI _ rfl
  have big : ∀ n : Nat, 1 ≤ n → n ≤ 7 → cr_s c = -(nI n) → c = 3000000 + (n - 1) := by
    intro n h1 h2 e
    have := congrArg Int32.toInt e
    rw [hv, nu_neg (by omega)] at this
    split at this <;> omega
  refine c_X5_operand (Nat.zero_le _) ⟨fun e => ?_, fun e => ?_, fun e => ?_, fun e => ?_, fun e => ?_, fun e => ?_, fun e => ?_, fun e => ?_⟩
  · have ec := big 7 (by omega) (by omega) e
    rw [rd 4 (by omega), nu_l (by omega)]
    subst ec; exact hQ
  · have ec := big 6 (by omega) (by omega) e
    rw [rd 1 (by omega), nu_l (by omega)]
    subst ec; exact hQ
  · have ec := big 5 (by omega) (by omega) e
    rw [rd 0 (by omega), nu_l (by omega)]
    subst ec; exact hQ
  · have ec := big 4 (by omega) (by omega) e
    rw [rd 3 (by omega), nu_l (by omega)]
    subst ec; exact hQ
  · have ec := big 3 (by omega) (by omega) e
    rw [rd 2 (by omega), nu_l (by omega)]
    subst ec; exact hQ
  · have ec := big 2 (by omega) (by omega) e
    rw [rd 5 (by omega), nu_l (by omega)]
    subst ec; exact hQ
  · have ec := big 1 (by omega) (by omega) e
    rw [rd 4 (by omega), hR.1 2 (by omega)]
    have e2 : (nI (Hh H 2) - nI (Hs H s 4)).toInt64 = lN (Hh H 2) - lN (Hs H s 4) := by
      apply Int64.toInt_inj.mp
      rw [Int32.toInt_toInt64, pk_sub_toInt (by omega) (by omega), Int64.toInt_sub, lN_toInt (by omega), lN_toInt (by omega)]
      rw [Int.bmod_eq_of_le (by omega) (by omega)]
    rw [e2]
    subst ec; exact hQ
  · rw [hv] at e
    have hlt : c < 2000000 := by
      rcases hp with q | q
      · exact q
      · rw [if_neg (by omega)] at e
        rcases hc with r | r | r | r | r | r <;> omega
    have e3 : cr_s c = nI c := by unfold cr_s; rw [if_pos hlt]
    rw [e3, nu_l (by omega)]
    unfold rp_a at hQ
    rw [if_pos hlt] at hQ
    exact hQ
theorem k_joined {c : Nat} {x y : Int64} (hc : c = 2000042 ∨ c = 2000043 ∨ c = 2000045) (hQ : Q (Sum.inl (some (zJ (rp_o c x y)))) v) : gd_C g mX5_joined d 0 0 [zI (cr_s c), zJ x, zJ y] v Q := by
  refine c_X5_joined (Nat.zero_le _) ?_
  rcases hc with rfl | rfl | rfl
  · exact ⟨fun _ => ⟨fun _ => hQ, fun e => absurd e (by decide)⟩, fun e => absurd e (by decide)⟩
  · exact ⟨fun e => absurd (by decide) e, fun _ => hQ⟩
  · exact ⟨fun _ => ⟨fun e => absurd (by decide) e, fun _ => hQ⟩, fun e => absurd e (by decide)⟩
theorem k_worthOf {s o : Nat} (hd : 3 ≤ d) (hR : cr_R v h H) (hW : hs_W H) (hs : s < Hh H 1) (hQ : ∀ v', fr (fy [(23, o)]) v v' → Q (Sum.inl (some (zJ (rp_w H s)))) v') : gd_C g mX5_worthOf d 0 0 [zR 5 o, zR 2 h, zR 9 (24 * h + s)] v Q := by
  obtain ⟨c1, c2, c3⟩ := hW.2.2.2.2.2.2.2.2.2
  refine c_X5_worthOf (Nat.zero_le _) ?_
  have key : ∀ (l : List Nat) (k n m : Nat) (u : gd_D), (Hc H).drop k = l → k ≤ (Hc H).length → fr (fy [(23, o)]) v u → rp_dep l n = some m → n ≤ 16 → (∀ v', fr (fy [(23, o)]) v v' → Q (Sum.inl (some (zJ (rp_e H s l (u.2.1 23 o) n)))) v') → gd_G g mX5_worthOf d 0 0 5 [(0, zR 5 o), (1, zR 2 h), (2, zR 9 (24 * h + s)), (3, zI (nI n)), (4, zI (nI k))] [] u Q := by
    intro l
    induction l with
    | nil =>
      intro k n m u hl hk hf hdp hn hQ
      have hR' : cr_R u h H := hR.far hW hf (fun _ _ => fy_n rfl) (fun _ _ => fy_n rfl) (fun _ _ => fy_n rfl) (fun _ _ => fy_n rfl)
      have hlen : u.2.2.2.2.1 (u.2.2.1 h) = (Hc H).length := hR'.2.2.2.2.2.1
      have ek : k = (Hc H).length := by
        have := congrArg List.length hl
        simp at this; omega
      refine w_X5_worthOf_5 hd ⟨fun _ => ⟨fun hc => ?_, fun hc => ?_⟩, fun hc => ?_⟩
      · have hn0 : n = 0 := by
          rw [nu_I 0, nI_leI (by omega) (by omega)] at hc; omega
        have := hQ u hf
        unfold rp_e at this
        rw [if_pos hn0] at this
        exact this
      · have hn0 : ¬ n = 0 := fun e => hc (by rw [e]; exact nI_le (Nat.le_refl 0) (by decide))
        refine ⟨nu_in (n := 0) (by decide) (by decide), ?_⟩
        have := hQ u hf
        unfold rp_e at this
        rw [if_neg hn0] at this
        exact this
      · exfalso
        apply hc
        show nI _ ≤ nI k
        rw [hlen, ek]; exact nI_le (Nat.le_refl _) (by omega)
    | cons c l ih =>
      intro k n m u hl hk hf hdp hn hQ
      have hR' : cr_R u h H := hR.far hW hf (fun _ _ => fy_n rfl) (fun _ _ => fy_n rfl) (fun _ _ => fy_n rfl) (fun _ _ => fy_n rfl)
      have hlen : u.2.2.2.2.1 (u.2.2.1 h) = (Hc H).length := hR'.2.2.2.2.2.1
      have hkl : k < (Hc H).length := by
        have := congrArg List.length hl
        simp at this; omega
      have hcx : (Hc H).getD k 0 = c := by
        have e := List.drop_eq_getElem_cons hkl
        rw [hl] at e
        rw [List.getD_eq_getElem?_getD, List.getElem?_eq_getElem hkl]
        exact (List.cons.inj e).1.symm
      have hl' : (Hc H).drop (k + 1) = l := by
        have e := List.drop_eq_getElem_cons hkl
        rw [hl] at e
        exact (List.cons.inj e).2.symm
      have hst : rp_step c := by
        refine c2 c ?_
        rw [← hcx, List.getD_eq_getElem?_getD, List.getElem?_eq_getElem hkl]
        exact List.getElem_mem hkl
      have hval : u.1 15 (u.2.2.1 h) k = cr_s c := by rw [hR'.2.2.2.2.2.2 k hkl, hcx]
      unfold rp_dep at hdp
      unfold rp_e at hQ
      refine w_X5_worthOf_5 hd ⟨fun hc => ?_, fun _ => ⟨by rw [hlen]; exact nu_in hkl (by omega), ?_⟩⟩
      · exfalso
        have hc : nI _ ≤ nI k := hc
        rw [hlen, nI_leI (by omega) (by omega)] at hc
        omega
      · rintro _ rfl
        rw [nI_clamp (by omega), hval]
        refine ⟨fun hc => ?_, fun hc => ?_⟩
        · have hnp : ¬ (c < 2000000 ∨ 3000000 ≤ c) := fun q => cr_s_push hst q hc
          rw [if_neg hnp] at hdp hQ
          have hc4 : c = 2000042 ∨ c = 2000043 ∨ c = 2000045 ∨ c = 2000110 := by rcases hst with r | r | r | r | r | r <;> omega
          refine ⟨fun hc8 => ?_, fun hc8 => ?_⟩
          · have h4 : ¬ c = 2000110 := fun e => hc8 (by rw [e]; decide)
            rw [if_neg h4] at hdp hQ
            by_cases h2n : 2 ≤ n
            · rw [if_pos h2n] at hdp
              obtain ⟨n', rfl⟩ : ∃ n', n = n' + 2 := ⟨n - 2, by omega⟩
              have e1 : n' + 2 - 2 = n' := by omega
              have e2 : n' + 2 - 1 = n' + 1 := by omega
              rw [e1, e2] at hQ
              rw [e2] at hdp
              refine ⟨fun hc1 => ?_, fun _ => ?_⟩
              · exfalso
                rw [nu_I 1, nI_leI (by omega) (by omega)] at hc1; omega
              · rw [show n' + 2 = (n' + 1) + 1 from rfl, nu_p, nu_q]
                refine ⟨nu_in (by omega) (by omega), ?_⟩
                rintro _ rfl
                rw [nI_clamp (n := n') (by omega), nI_clamp (n := n' + 1) (by omega)]
                refine ⟨nu_in (by omega) (by omega), k_joined (by omega) ⟨nu_in (by omega) (by omega), ?_⟩⟩
                rintro _ rfl
                rw [nu_1 k]
                refine ih (k + 1) (n' + 1) m _ hl' (by omega) (hf.tr (fr.sJ (fy_y 0 rfl))) hdp (by omega) ?_
                rw [sJ_row]; exact hQ
            · rw [if_neg h2n] at hdp; cases hdp
          · have h4 : c = 2000110 := by
              rcases hc4 with r | r | r | r
              · rw [r] at hc8; exact absurd hc8 (by decide)
              · rw [r] at hc8; exact absurd hc8 (by decide)
              · rw [r] at hc8; exact absurd hc8 (by decide)
              · exact r
            rw [if_pos h4] at hdp hQ
            by_cases h1n : 1 ≤ n
            · rw [if_pos h1n] at hdp
              obtain ⟨n', rfl⟩ : ∃ n', n = n' + 1 := ⟨n - 1, by omega⟩
              refine ⟨fun hc1 => ?_, fun _ => ?_⟩
              · exfalso
                rw [nu_I 0, nI_leI (by omega) (by omega)] at hc1; omega
              · rw [nu_q]
                refine ⟨nu_in (by omega) (by omega), nu_in (by omega) (by omega), ?_⟩
                rintro _ rfl
                rw [nI_clamp (n := n') (by omega), nu_1 k]
                refine ih (k + 1) (n' + 1) m _ hl' (by omega) (hf.tr (fr.sJ (fy_y 0 rfl))) hdp (by omega) ?_
                rw [sJ_row]; exact hQ
            · rw [if_neg h1n] at hdp; cases hdp
        · have hp : c < 2000000 ∨ 3000000 ≤ c := by
            rcases hst with r | r | r | r | r | r
            · exact Or.inl (by omega)
            · exact Or.inr r.1
            · rw [r] at hc; exact absurd (by decide) hc
            · rw [r] at hc; exact absurd (by decide) hc
            · rw [r] at hc; exact absurd (by decide) hc
            · rw [r] at hc; exact absurd (by decide) hc
          rw [if_pos hp] at hdp hQ
          by_cases h16 : n < 16
          · rw [if_pos h16] at hdp
            refine ⟨fun hc1 => ?_, fun _ => k_operand hR' hW hs hst hp ⟨nu_in (by omega) (by omega), ?_⟩⟩
            · exfalso
              rw [nu_I 16, nI_leI (by omega) (by omega)] at hc1; omega
            · rintro _ rfl
              rw [nI_clamp (n := n) (by omega), nu_1, nu_1]
              refine ih (k + 1) (n + 1) m _ hl' (by omega) (hf.tr (fr.sJ (fy_y 0 rfl))) hdp (by omega) ?_
              rw [sJ_row]; exact hQ
          · rw [if_neg h16] at hdp; cases hdp
  rcases c3 with e | e
  · have e1 : rp_w H s = 0 := by unfold rp_w; rw [e]; rfl
    refine key [] 0 0 0 v (by rw [e]; rfl) (Nat.zero_le _) fr.rf rfl (by omega) (fun v' hv' => ?_)
    have := hQ v' hv'
    rw [e1] at this
    exact this
  · refine key (Hc H) 0 0 1 v rfl (Nat.zero_le _) fr.rf e (by omega) (fun v' hv' => ?_)
    have := hQ v' hv'
    unfold rp_w at this
    rw [rp_e_same (Hc H) _ (v.2.1 23 o) 0 1 e (fun j hj => absurd hj (Nat.not_lt_zero j))] at this
    exact this
/-- an order's own cells -/
def fo (o : Nat) : List (Nat × Nat) := [(5, o), (21, o), (22, o), (23, o)]
/-- the order that an order object holds -/
def cr_O (v : gd_D) (o : Nat) (l : List Nat) : Prop := v.1 5 o 3 = nI l.length ∧ ∀ j, j < l.length → v.1 21 o j = nI (l.getD j 0)
theorem k_insert {o n : Nat} {w : Nat → Int64} (hn : n < 24) (hw : ∀ j, j < n + 1 → v.2.1 22 o j = w j) (ho : ∀ j, j < n → v.1 21 o j = nI ((ord_R w n).reverse.getD j 0)) (hQ : ∀ v', fr (fy [(21, o)]) v v' → (∀ j, j < n + 1 → v'.1 21 o j = nI ((ord_R w (n + 1)).reverse.getD j 0)) → Q (Sum.inl none) v') : gd_C g mX5_insert d 0 0 [zR 5 o, zI (nI n)] v Q := by
  refine c_X5_insert (Nat.zero_le _) ?_
  have fin : ∀ (A B : List Nat) (z : gd_D), A ++ B = ord_R w n → (∀ x ∈ A, w x < w n) → (∀ x, B.head? = some x → ¬ w x < w n) → fr (fy [(21, o)]) v z → ord_T (z.1 21 o) A B → wp_X5_insert_53 g d o (nI n) (nI B.length) z Q := by
    intro A B z hAB hA hB hfz hT
    have hlen : A.length + B.length = n := by
      have := congrArg List.length hAB
      rw [ord_R_len] at this
      simpa using this
    refine ⟨nu_in (by omega) (by omega), ?_⟩
    rintro _ rfl
    rw [nI_clamp (by omega)]
    refine hQ _ (hfz.tr (fr.sI (fy_y 0 rfl))) (fun j hj => ?_)
    have e := ord_T_end (o' := (gd_sI z 21 o B.length (nI n)).1 21 o) hT (s := n) sI_at (fun j hj => sI_ne (fun q => hj q.2.2))
    have e2 : ord_R w (n + 1) = A ++ n :: B := by
      show ord_in w n (ord_R w n) = _
      rw [← hAB]
      exact ord_in_split A B hA hB
    rw [e2]
    exact e j (by rw [← e2, ord_R_len]; exact hj)
  have key : ∀ (B A : List Nat) (z : gd_D), A ++ B = ord_R w n → (∀ x ∈ A, w x < w n) → fr (fy [(21, o)]) v z → ord_T (z.1 21 o) A B → gd_G g mX5_insert d 0 0 6 [(0, zR 5 o), (1, zI (nI n)), (2, zI (nI B.length)), (3, zI (nI B.length - 1))] [] z Q := by
    intro B
    induction B with
    | nil =>
      intro A z hAB hA hfz hT
      refine w_X5_insert_6 (Nat.zero_le _) ⟨fun _ => fin A [] z hAB hA (fun x hx => by cases hx) hfz hT, fun hc => absurd (by decide) hc⟩
    | cons x B ihB =>
      intro A z hAB hA hfz hT
      have hlen : A.length + (B.length + 1) = n := by
        have := congrArg List.length hAB
        rw [ord_R_len] at this
        simpa using this
      have hxn : x < n := (ord_R_mem w x n).mp (by rw [← hAB]; exact List.mem_append.mpr (Or.inr List.mem_cons_self))
      have ht := ord_T_top hT
      have hwz : ∀ j, z.2.1 22 o j = v.2.1 22 o j := fun j => (hfz.1 22 o j (fy_n rfl)).2
      rw [List.length_cons, nu_q]
      refine w_X5_insert_6 (Nat.zero_le _) ⟨fun hc => absurd hc (nI_pos (by omega)), fun _ => ?_⟩
      rw [nu_1, nI_clamp (n := B.length) (by omega), ht, nI_clamp (n := x) (by omega), nI_clamp (n := n) (by omega), nI_clamp (n := B.length + 1) (by omega)]
      refine ⟨nu_in (by omega) (by omega), nu_in (by omega) (by omega), ?_⟩
      rintro _ rfl
      rw [hwz, hwz, hw x (by omega), hw n (by omega)]
      refine ⟨nu_in (by omega) (by omega), fun hc => ?_, fun hc => ⟨nu_in (by omega) (by omega), nu_in (by omega) (by omega), ?_⟩⟩
      · have hnlt : ¬ w x < w n := by rw [Int64.lt_iff_toInt_lt]; rw [Int64.le_iff_toInt_le] at hc; omega
        have := fin A (x :: B) z hAB hA (fun y hy => by cases hy; exact hnlt) hfz hT
        rw [List.length_cons] at this
        exact this
      · have hxlt : w x < w n := by rw [Int64.lt_iff_toInt_lt]; rw [Int64.le_iff_toInt_le] at hc; omega
        rintro _ rfl
        have e : nI B.length + (-1) = nI B.length - 1 := by rw [Int32.sub_eq_add_neg]
        rw [e]
        refine ihB (A ++ [x]) _ (by rw [List.append_assoc]; exact hAB) (fun y hy => ?_) (hfz.tr (fr.sI (fy_y 0 rfl))) (ord_T_mv hT sI_at (fun j hj => sI_ne (fun q => hj q.2.2)))
        rcases List.mem_append.mp hy with q | q
        · exact hA y q
        · rw [List.mem_singleton.mp q]; exact hxlt
  have := key (ord_R w n) [] v rfl (fun x hx => by cases hx) fr.rf (ord_T0 (fun j hj => ho j (by rw [ord_R_len] at hj; exact hj)))
  rw [ord_R_len] at this
  exact this
theorem k_arrange {o : Nat} (hd : 4 ≤ d) (hR : cr_R v h H) (hW : hs_W H) (hQ : ∀ v', fr (fy (fo o)) v v' → cr_O v' o (hs_O H) → Q (Sum.inl none) v') : gd_C g mX5_arrange d 0 0 [zR 5 o, zR 2 h] v Q := by
  have h24 := hW.2.1
  refine c_X5_arrange (Nat.zero_le _) ?_
  rintro _ rfl
  have key : ∀ k n (u : gd_D), n + k = Hh H 1 → fr (fy (fo o)) v u → u.1 5 o 3 = nI (Hh H 1) → (∀ j, j < n → u.2.1 22 o j = rp_w H j) → (∀ j, j < n → u.1 21 o j = nI ((ord_R (rp_w H) n).reverse.getD j 0)) → gd_G g mX5_arrange d 0 0 10 [(0, zR 5 o), (1, zR 2 h), (2, zI (nI n))] [] u Q := by
    intro k
    induction k with
    | zero =>
      intro n u hn hf hsz hw ho
      have e : n = Hh H 1 := by omega
      subst e
      refine w_X5_arrange_10 hd ⟨fun _ => hQ u hf ⟨by rw [ord_L_len]; exact hsz, fun j hj => ho j (by rw [ord_L_len] at hj; exact hj)⟩, fun hc => ?_⟩
      rw [hsz] at hc
      exact absurd (nI_le (Nat.le_refl _) (by omega)) hc
    | succ k ih =>
      intro n u hn hf hsz hw ho
      have hlt : n < Hh H 1 := by omega
      have hR' : cr_R u h H := hR.far hW hf (fun _ _ => fy_n rfl) (fun _ _ => fy_n rfl) (fun _ _ => fy_n rfl) (fun _ _ => fy_n rfl)
      refine w_X5_arrange_10 hd ⟨fun hc => ?_, fun _ => ⟨nu_in (by omega) (by omega), ?_⟩⟩
      · rw [hsz] at hc
        exact absurd hc (nI_ge hlt (by omega))
      · rw [nI_clamp (by omega)]
        refine k_worthOf (Nat.le_refl 3) hR' hW hlt (fun u2 hf2 => ⟨nu_in (by omega) (by omega), ?_⟩)
        rintro _ rfl
        refine k_insert (w := rp_w H) (by omega) (fun j hj => ?_) (fun j hj => ?_) (fun u3 hf3 ho3 => ?_)
        · by_cases e : j = n
          · subst e; exact sJ_at
          · rw [sJ_ne (fun q => e q.2.2), hf2.J (fun _ => fy_n rfl)]; exact hw j (by omega)
        · show u2.1 21 o j = _
          rw [hf2.I (fun _ => fy_n rfl)]; exact ho j hj
        · have f4 : fr (fy (fo o)) v u3 := ((hf.tr (hf2.wk (fy_1 3 rfl))).tr (fr.sJ (fy_y 2 rfl))).tr (hf3.wk (fy_1 1 rfl))
          show gd_G g mX5_arrange d 0 0 10 [(0, zR 5 o), (1, zR 2 h), (2, zI (nI n + 1))] [] u3 Q
          rw [nu_1]
          refine ih (n + 1) u3 (by omega) f4 ?_ (fun j hj => ?_) ho3
          · rw [hf3.I (fun _ => fy_n rfl)]
            show u2.1 5 o 3 = _
            rw [hf2.I (fun _ => fy_n rfl)]; exact hsz
          · rw [hf3.J (fun _ => fy_n rfl)]
            by_cases e : j = n
            · subst e; exact sJ_at
            · rw [sJ_ne (fun q => e q.2.2), hf2.J (fun _ => fy_n rfl)]; exact hw j (by omega)
  refine key (Hh H 1) 0 _ (by omega) (fr.sI (fy_y 0 rfl)) ?_ (fun j hj => absurd hj (Nat.not_lt_zero j)) (fun j hj => absurd hj (Nat.not_lt_zero j))
  rw [sI_at, hR.1 1 (by omega)]
end CL1
