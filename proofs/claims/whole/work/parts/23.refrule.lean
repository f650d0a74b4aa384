/-! THE REFERENCE: rule and order -/
theorem nu_p {k : Nat} : (nI (k + 1) : Int32) + (-1) = nI k := pk_m1 k
theorem nu_q {k : Nat} : (nI (k + 1) : Int32) - 1 = nI k := nI_pred k
theorem nu_lt31 {n : Nat} (h : n ≤ 10000) : n < 2 ^ 31 := by omega
theorem sJ_row {v : gd_D} {k i j : Nat} {x : Int64} : (gd_sJ v k i j x).2.1 k i = vp_updL (v.2.1 k i) j x := by
  funext c
  show (if k = k ∧ i = i ∧ c = j then x else v.2.1 k i c) = if c = j then x else v.2.1 k i c
  by_cases h : c = j
  · rw [if_pos ⟨rfl, rfl, h⟩, if_pos h]
  · rw [if_neg (fun q => h q.2.2), if_neg h]
theorem sJ_off {v : gd_D} {k i j a b : Nat} {x : Int64} (h : ¬ (a = k ∧ b = i)) : (gd_sJ v k i j x).2.1 a b = v.2.1 a b := by
  funext c
  exact if_neg (fun q => h ⟨q.1, q.2.1⟩)
theorem sI_row {v : gd_D} {k i j : Nat} {x : Int32} : (gd_sI v k i j x).1 k i = upd (v.1 k i) j x := by
  funext c
  show (if k = k ∧ i = i ∧ c = j then x else v.1 k i c) = if c = j then x else v.1 k i c
  by_cases h : c = j
  · rw [if_pos ⟨rfl, rfl, h⟩, if_pos h]
  · rw [if_neg (fun q => h q.2.2), if_neg h]
theorem sI_off {v : gd_D} {k i j a b : Nat} {x : Int32} (h : ¬ (a = k ∧ b = i)) : (gd_sI v k i j x).1 a b = v.1 a b := by
  funext c
  exact if_neg (fun q => h ⟨q.1, q.2.1⟩)
/-- a whole row stays -/
theorem fr.J {X : Nat → Nat → Nat → Prop} {v v' : gd_D} (h : fr X v v') {k i : Nat} (hx : ∀ j, ¬ X k i j) : v'.2.1 k i = v.2.1 k i := by funext j; exact (h.1 k i j (hx j)).2
theorem fr.I {X : Nat → Nat → Nat → Prop} {v v' : gd_D} (h : fr X v v') {k i : Nat} (hx : ∀ j, ¬ X k i j) : v'.1 k i = v.1 k i := by funext j; exact (h.1 k i j (hx j)).1
section RF2
variable {g : ab_E} {d : Nat} {v : gd_D} {Q : ab_O → gd_D → Prop} {H : hs_T}
theorem r_partOf {s p : Nat} (hd : 3 ≤ d) (hR : rm_R (v.2.1 40 0) H) (hW : hs_W H) (hs : s < Hh H 1) (hp : p ≤ 6) (h : Q (Sum.inl (some (zJ (rp_v H s p)))) v) : gd_C g mX11_partOf d 0 0 [zR 11 0, zI (nI s), zI (nI p)] v Q := by
  have hS := hW.2.2.2.2.2.2.2.2.1 s hs
  have h8 := hW.1
  obtain ⟨s1, s2, -, s3, s4, s5, s6⟩ := hS
  have ne : ∀ q : Nat, q ≤ 6 → ¬ p = q → ¬ nI p = nI q := fun q hq hn e => hn ((nI_eq (by omega) (by omega)).mp e)
  refine c_X11_partOf hd ⟨fun hc => ?_, fun hc => ?_, fun hc => ?_, fun hc => ?_, fun hc => ?_, fun hc => ?_, fun hc => ?_⟩
  · have e : p = 0 := (nI_eq (b := 0) (by omega) (by omega)).mp hc
    subst e
    refine ⟨nu_in (n := 2) (by decide) (by decide), r_of (w := 4) hR hW hs (by decide) ?_⟩
    rintro _ rfl
    rw [show ((2 : Int32)).toNatClampNeg = 2 from by decide, hR.1 2 (by decide), nu_l (by omega)]
    exact h
  · have e : p = 1 := (nI_eq (b := 1) (by omega) (by omega)).mp hc
    subst e
    refine r_of (w := 5) hR hW hs (by decide) ?_
    show Q (Sum.inl (some (zJ (nI (Hs H s 5)).toInt64))) v
    rw [nu_l (by omega)]; exact h
  · have e : p = 2 := (nI_eq (b := 2) (by omega) (by omega)).mp hc
    subst e
    refine r_of (w := 2) hR hW hs (by decide) ?_
    show Q (Sum.inl (some (zJ (nI (Hs H s 2)).toInt64))) v
    rw [nu_l (by omega)]; exact h
  · have e : p = 3 := (nI_eq (b := 3) (by omega) (by omega)).mp hc
    subst e
    refine r_of (w := 3) hR hW hs (by decide) ?_
    show Q (Sum.inl (some (zJ (nI (Hs H s 3)).toInt64))) v
    rw [nu_l (by omega)]; exact h
  · have e : p = 4 := (nI_eq (b := 4) (by omega) (by omega)).mp hc
    subst e
    refine r_of (w := 0) hR hW hs (by decide) ?_
    show Q (Sum.inl (some (zJ (nI (Hs H s 0)).toInt64))) v
    rw [nu_l (by omega)]; exact h
  · have e : p = 5 := (nI_eq (b := 5) (by omega) (by omega)).mp hc
    subst e
    refine r_of (w := 1) hR hW hs (by decide) ?_
    show Q (Sum.inl (some (zJ (nI (Hs H s 1)).toInt64))) v
    rw [nu_l (by omega)]; exact h
  · rw [nI_toInt (by omega)] at hc
    have e : p = 6 := by omega
    subst e
    refine r_of (w := 4) hR hW hs (by decide) ?_
    show Q (Sum.inl (some (zJ (nI (Hs H s 4)).toInt64))) v
    rw [nu_l (by omega)]; exact h
/-- changes of the pile alone -/
def fx (ks : List Nat) (k _ _ : Nat) : Prop := k ∈ ks
theorem fx_n {ks : List Nat} {k i j : Nat} (h : decide (k ∈ ks) = false) : ¬ fx ks k i j := show ¬ k ∈ ks from of_decide_eq_false h
theorem fx_y {ks : List Nat} {k i j : Nat} (h : decide (k ∈ ks) = true) : fx ks k i j := show k ∈ ks from of_decide_eq_true h
theorem r_ruled {s : Nat} (hd : 4 ≤ d) (hR : rm_R (v.2.1 40 0) H) (hW : hs_W H) (hs : s < Hh H 1) (h : ∀ v', fr (fx [46]) v v' → Q (Sum.inl (some (zJ (rp_w H s)))) v') : gd_C g mX11_ruled d 0 0 [zR 11 0, zI (nI s)] v Q := by
  have h24 := hW.2.1
  obtain ⟨c1, c2, c3⟩ := hW.2.2.2.2.2.2.2.2.2
  refine c_X11_ruled (Nat.zero_le _) ?_
  have key : ∀ (l : List Nat) (k n m : Nat) (u : gd_D), (Hc H).drop k = l → k ≤ (Hc H).length → fr (fx [46]) v u → rp_dep l n = some m → n ≤ 16 → (∀ v', fr (fx [46]) v v' → Q (Sum.inl (some (zJ (rp_e H s l (u.2.1 46 0) n)))) v') → gd_G g mX11_ruled d 0 0 4 [(0, zR 11 0), (1, zI (nI s)), (2, zI (nI n)), (3, zI (nI k))] [] u Q := by
    intro l
    induction l with
    | nil =>
      intro k n m u hl hk hf hdp hn hQ
      have ek : k = (Hc H).length := by
        have := congrArg List.length hl
        simp at this; omega
      have hR' : rm_R (u.2.1 40 0) H := by rw [hf.J (fun _ => fx_n rfl)]; exact hR
      refine w_X11_ruled_4 hd ⟨nu_in (n := 7) (by decide) (by decide), fun _ => ⟨fun hc => ?_, fun hc => ?_⟩, fun hc => ?_⟩
      · have hn0 : ¬ n = 0 := fun e => hc (by rw [e]; rfl)
        refine ⟨nu_in (n := 0) (by decide) (by decide), ?_⟩
        have := hQ u hf
        unfold rp_e at this
        rw [if_neg hn0] at this
        exact this
      · have hn0 : n = 0 := (nI_eq (b := 0) (by omega) (by omega)).mp hc
        have := hQ u hf
        unfold rp_e at this
        rw [if_pos hn0] at this
        exact this
      · exfalso
        apply hc
        rw [show ((7 : Int32)).toNatClampNeg = 7 from by decide, hR'.2.1, nu_l (by omega), ek]
        exact (lN_le (by omega) (by omega)).mpr (Nat.le_refl _)
    | cons c l ih =>
      intro k n m u hl hk hf hdp hn hQ
      have hkl : k < (Hc H).length := by
        have := congrArg List.length hl
        simp at this; omega
      have hR' : rm_R (u.2.1 40 0) H := by rw [hf.J (fun _ => fx_n rfl)]; exact hR
      have hcx : (Hc H).getD k 0 = c := by
        have e := List.drop_eq_getElem_cons hkl
        rw [hl] at e
        rw [List.getD_eq_getElem?_getD, List.getElem?_eq_getElem hkl]
        exact (List.cons.inj e).1.symm
      have hl' : (Hc H).drop (k + 1) = l := by
        have e := List.drop_eq_getElem_cons hkl
        rw [hl] at e
        exact (List.cons.inj e).2.symm
      have hst : rp_step c := by
        refine c2 c ?_
        rw [← hcx, List.getD_eq_getElem?_getD, List.getElem?_eq_getElem hkl]
        exact List.getElem_mem hkl
      have hval : u.2.1 40 0 ((273 : Int32) + nI k).toNatClampNeg = lN c := by
        rw [nu_I 273, nI_add, nI_clamp (by omega), hR'.2.2.2.2.2 k hkl, hcx]
      have hcb : c ≤ 3000006 := by rcases hst with q | q | q | q | q | q <;> omega
      have lt2 : (lN c < 2000000) ↔ c < 2000000 := pk_lLT (b := 2000000) (by omega) (by omega)
      have lt3 : (lN c < 3000000) ↔ c < 3000000 := pk_lLT (b := 3000000) (by omega) (by omega)
      have le2 : ((2000000 : Int64) ≤ lN c) ↔ 2000000 ≤ c := pk_lLE (a := 2000000) (by omega) (by omega)
      have eqc : ∀ q : Nat, q < 2 ^ 62 → (lN c = lN q ↔ c = q) := fun q hq => pk_lEQ (by omega) (by omega)
      unfold rp_dep at hdp
      unfold rp_e at hQ
      -- pushing a value
      have push : (c < 2000000 ∨ 3000000 ≤ c) → wp_X11_ruled_47 g d (nI s) (nI n) (nI k) (lN c) u Q := by
        intro hp
        rw [if_pos hp] at hdp
        by_cases h16 : n < 16
        · rw [if_pos h16] at hdp
          rw [if_pos hp] at hQ
          have fin : ∀ x : Int64, x = rp_a H s c → wp_X11_ruled_78 g d (nI s) (nI n) (nI k) (nI n) x u Q := by
            rintro _ rfl
            refine ⟨nu_in (by omega) (by omega), ?_⟩
            rintro _ rfl
            rw [nI_clamp (by omega), nu_1, nu_1]
            refine ih (k + 1) (n + 1) m _ hl' (by omega) (hf.tr (fr.sJ (fx_y rfl))) hdp (by omega) ?_
            rw [sJ_row]; exact hQ
          refine ⟨fun hc => ?_, fun hc => fin _ ?_⟩
          · rw [le2] at hc
            have h3 : 3000000 ≤ c := by omega
            rw [show ((lN c - 3000000 : Int64)).toInt32 = nI (c - 3000000) from by rw [nu_J 3000000, lN_sub h3, lN_i]]
            refine r_partOf (Nat.le_refl 3) hR' hW hs (by omega) (fin _ ?_)
            unfold rp_a; rw [if_neg (by omega)]
          · rw [le2] at hc
            unfold rp_a; rw [if_pos (by omega)]
        · rw [if_neg h16] at hdp; cases hdp
      refine w_X11_ruled_4 hd ⟨nu_in (n := 7) (by decide) (by decide), fun hc => ?_, fun _ => ⟨by rw [nu_I 273, nI_add]; exact nu_in (by omega) (by decide), ?_⟩⟩
      · exfalso
        rw [show ((7 : Int32)).toNatClampNeg = 7 from by decide, hR'.2.1, nu_l (by omega), lN_le (by omega) (by omega)] at hc
        omega
      · rw [hval]
        refine ⟨fun hc => push (Or.inl (lt2.mp hc)), fun hc => ⟨fun hc3 => ?_, fun hc3 => push (Or.inr (by rw [lt3] at hc3; omega))⟩⟩
        rw [lt2] at hc
        rw [lt3] at hc3
        have hnp : ¬ (c < 2000000 ∨ 3000000 ≤ c) := by omega
        rw [if_neg hnp] at hdp hQ
        refine ⟨fun hc4 => ?_, fun hc4 => ?_⟩
        · have h4 : ¬ c = 2000110 := fun e => hc4 (by rw [e]; rfl)
          rw [if_neg h4] at hdp hQ
          by_cases h2n : 2 ≤ n
          · rw [if_pos h2n] at hdp
            obtain ⟨n', rfl⟩ : ∃ n', n = n' + 2 := ⟨n - 2, by omega⟩
            rw [show n' + 2 = (n' + 1) + 1 from rfl, nu_p, nu_q]
            have e1 : n' + 1 + 1 - 2 = n' := by omega
            have e2 : n' + 1 + 1 - 1 = n' + 1 := by omega
            rw [e1, e2] at hQ
            rw [e2] at hdp
            have fin : ∀ x : Int64, x = rp_o c (u.2.1 46 0 n') (u.2.1 46 0 (n' + 1)) → wp_X11_ruled_185 g d (nI s) (nI (n' + 1)) (nI k) (nI n') x u Q := by
              rintro _ rfl
              refine ⟨nu_in (by omega) (by omega), ?_⟩
              rintro _ rfl
              rw [nI_clamp (by omega), nu_1]
              refine ih (k + 1) (n' + 1) m _ hl' (by omega) (hf.tr (fr.sJ (fx_y rfl))) hdp (by omega) ?_
              rw [sJ_row]; exact hQ
            refine ⟨nu_in (by omega) (by omega), ?_⟩
            rintro _ rfl
            rw [nI_clamp (n := n') (by omega), nI_clamp (n := n' + 1) (by omega)]
            refine ⟨fun q1 => ⟨fun q2 => ⟨nu_in (by omega) (by omega), ?_⟩, fun q2 => ⟨nu_in (by omega) (by omega), ?_⟩⟩, fun q1 => ⟨nu_in (by omega) (by omega), ?_⟩⟩
            · rintro _ rfl
              refine fin _ ?_
              unfold rp_o
              rw [if_neg (fun e => q1 (by rw [e]; rfl)), if_neg (fun e => q2 (by rw [e]; rfl))]
            · rintro _ rfl
              have e := (eqc 2000045 (by omega)).mp q2
              refine fin _ ?_
              unfold rp_o
              rw [if_neg (by omega), if_pos e]
            · rintro _ rfl
              have e := (eqc 2000043 (by omega)).mp q1
              refine fin _ ?_
              unfold rp_o
              rw [if_pos e]
          · rw [if_neg h2n] at hdp; cases hdp
        · have h4 : c = 2000110 := (eqc 2000110 (by omega)).mp hc4
          rw [if_pos h4] at hdp hQ
          by_cases h1n : 1 ≤ n
          · rw [if_pos h1n] at hdp
            obtain ⟨n', rfl⟩ : ∃ n', n = n' + 1 := ⟨n - 1, by omega⟩
            rw [nu_q]
            refine ⟨nu_in (by omega) (by omega), nu_in (by omega) (by omega), ?_⟩
            rintro _ rfl
            rw [nI_clamp (by omega), nu_1 k]
            refine ih (k + 1) (n' + 1) m _ hl' (by omega) (hf.tr (fr.sJ (fx_y rfl))) hdp (by omega) ?_
            rw [sJ_row]; exact hQ
          · rw [if_neg h1n] at hdp; cases hdp
  rcases c3 with e | e
  · have e1 : rp_w H s = 0 := by unfold rp_w; rw [e]; rfl
    refine key [] 0 0 0 v (by rw [e]; rfl) (Nat.zero_le _) fr.rf rfl (by omega) (fun v' hv' => ?_)
    have := h v' hv'
    rw [e1] at this
    exact this
  · refine key (Hc H) 0 0 1 v rfl (Nat.zero_le _) fr.rf e (by omega) (fun v' hv' => ?_)
    have := h v' hv'
    unfold rp_w at this
    rw [rp_e_same (Hc H) _ (v.2.1 46 0) 0 1 e (fun j hj => absurd hj (Nat.not_lt_zero j))] at this
    exact this
/-- the order that is laid -/
def rm_O (v : gd_D) (l : List Nat) : Prop := ∀ j, j < l.length → v.1 47 0 j = nI (l.getD j 0)
abbrev hs_O (H : hs_T) : List Nat := ord_L (rp_w H) (Hh H 1)
theorem r_orders (hd : 5 ≤ d) (hR : rm_R (v.2.1 40 0) H) (hW : hs_W H) (h : ∀ v', fr (fx [46, 47, 48]) v v' → rm_O v' (hs_O H) → Q (Sum.inl none) v') : gd_C g mX11_orders d 0 0 [zR 11 0] v Q := by
  have h24 := hW.2.1
  refine c_X11_orders (Nat.zero_le _) ?_
  have key : ∀ k n (u : gd_D), n + k = Hh H 1 → fr (fx [46, 47, 48]) v u → (∀ j, j < n → u.2.1 48 0 j = rp_w H j) → (∀ j, j < n → u.1 47 0 j = nI ((ord_R (rp_w H) n).reverse.getD j 0)) → gd_G g mX11_orders d 0 0 2 [(0, zR 11 0), (1, zI (nI n))] [] u Q := by
    intro k
    induction k with
    | zero =>
      intro n u hn hf hw ho
      have e : n = Hh H 1 := by omega
      subst e
      have hR' : rm_R (u.2.1 40 0) H := by rw [hf.J (fun _ => fx_n rfl)]; exact hR
      exact w_X11_orders_2 hd (r_sales hR' ⟨fun _ => h u hf (fun j hj => ho j (by rw [ord_L_len] at hj; exact hj)), fun hc => absurd (nI_le (Nat.le_refl _) (by omega)) hc⟩)
    | succ k ih =>
      intro n u hn hf hw ho
      have hlt : n < Hh H 1 := by omega
      have hR' : rm_R (u.2.1 40 0) H := by rw [hf.J (fun _ => fx_n rfl)]; exact hR
      refine w_X11_orders_2 hd (r_sales hR' ⟨fun hc => absurd hc (nI_ge hlt (by omega)), fun _ => r_ruled (Nat.le_refl 4) hR' hW hlt (fun u2 hf2 => ⟨nu_in (by omega) (by omega), ?_⟩)⟩)
      rintro _ rfl
      rw [nI_clamp (by omega)]
      -- the inner loop
      have inner : ∀ (B A : List Nat) (z : gd_D), A ++ B = ord_R (rp_w H) n → (∀ x ∈ A, rp_w H x < rp_w H n) → fr (fx [46, 47, 48]) v z → (∀ j, j < n + 1 → z.2.1 48 0 j = rp_w H j) → ord_T (z.1 47 0) A B → gd_G g mX11_orders d 0 0 23 [(0, zR 11 0), (1, zI (nI n)), (2, zI (nI B.length))] [] z Q := by
        intro B
        induction B with
        | nil =>
          intro A z hAB hA hfz hwz hT
          refine w_X11_orders_23 (Nat.zero_le _) ⟨fun _ => ⟨nu_in (n := 0) (by decide) (by decide), ?_⟩, fun hc => absurd (by rw [nu_I 0]; exact nI_le (Nat.le_refl 0) (by decide)) hc⟩
          rintro _ rfl
          rw [nu_1]
          refine ih (n + 1) _ (by omega) (hfz.tr (fr.sI (fx_y rfl))) (fun j hj => ?_) (fun j hj => ?_)
          · rw [show (gd_sI z 47 0 _ (nI n)).2.1 48 0 j = z.2.1 48 0 j from rfl]; exact hwz j hj
          · have e := ord_T_end (o' := (gd_sI z 47 0 ((nI ([] : List Nat).length).toNatClampNeg) (nI n)).1 47 0) hT (s := n) (by rw [nI_clamp (by decide)]; exact sI_at) (fun j hj => sI_ne (by rw [nI_clamp (by decide)]; intro q; exact hj q.2.2))
            have e2 : ord_R (rp_w H) (n + 1) = A ++ n :: [] := by
              show ord_in (rp_w H) n (ord_R (rp_w H) n) = _
              rw [← hAB]
              exact ord_in_split A [] hA (fun x hx => by cases hx)
            rw [e2]
            exact e j (by rw [← e2, ord_R_len]; exact hj)
        | cons x B ihB =>
          intro A z hAB hA hfz hwz hT
          have hlen : A.length + (B.length + 1) = n := by
            have := congrArg List.length hAB
            rw [ord_R_len] at this
            simpa using this
          have hxn : x < n := (ord_R_mem (rp_w H) x n).mp (by rw [← hAB]; exact List.mem_append.mpr (Or.inr List.mem_cons_self))
          have ht := ord_T_top hT
          refine w_X11_orders_23 (Nat.zero_le _) ⟨fun hc => ?_, fun _ => ?_⟩
          · exfalso
            rw [nu_I 0, nI_leI (by simp; omega) (by decide)] at hc
            simp at hc
          · rw [List.length_cons, nu_q, nu_p, nI_clamp (n := B.length) (by omega), ht, nI_clamp (n := x) (by omega), nI_clamp (n := n) (by omega)]
            refine ⟨nu_in (by omega) (by omega), nu_in (by omega) (by omega), ?_⟩
            rintro _ rfl
            rw [hwz x (by omega), hwz n (by omega)]
            refine ⟨nu_in (by omega) (by omega), fun hc => ⟨nu_in (by omega) (by omega), ?_⟩, fun hc => ⟨nu_in (by omega) (by omega), nu_in (by omega) (by omega), ?_⟩⟩
            · have hnlt : ¬ rp_w H x < rp_w H n := by rw [Int64.lt_iff_toInt_lt]; rw [Int64.le_iff_toInt_le] at hc; omega
              rintro _ rfl
              rw [nu_1 n]
              refine ih (n + 1) _ (by omega) (hfz.tr (fr.sI (fx_y rfl))) (fun j hj => ?_) (fun j hj => ?_)
              · rw [show (gd_sI z 47 0 _ (nI n)).2.1 48 0 j = z.2.1 48 0 j from rfl]; exact hwz j hj
              · have e := ord_T_end (o' := (gd_sI z 47 0 ((nI (B.length + 1)).toNatClampNeg) (nI n)).1 47 0) hT (s := n) (by rw [nI_clamp (n := B.length + 1) (by omega)]; exact sI_at) (fun j hj => sI_ne (by rw [nI_clamp (n := B.length + 1) (by omega)]; intro q; exact hj q.2.2))
                have e2 : ord_R (rp_w H) (n + 1) = A ++ n :: (x :: B) := by
                  show ord_in (rp_w H) n (ord_R (rp_w H) n) = _
                  rw [← hAB]
                  exact ord_in_split A (x :: B) hA (fun y hy => by cases hy; exact hnlt)
                rw [e2]
                exact e j (by rw [← e2, ord_R_len]; exact hj)
            · have hxlt : rp_w H x < rp_w H n := by rw [Int64.lt_iff_toInt_lt]; rw [Int64.le_iff_toInt_le] at hc; omega
              rintro _ rfl
              rw [nI_clamp (n := B.length + 1) (by omega)]
              refine ihB (A ++ [x]) _ (by rw [List.append_assoc]; exact hAB) (fun y hy => ?_) (hfz.tr (fr.sI (fx_y rfl))) (fun j hj => ?_) ?_
              · rcases List.mem_append.mp hy with q | q
                · exact hA y q
                · rw [List.mem_singleton.mp q]; exact hxlt
              · rw [show (gd_sI z 47 0 _ (nI x)).2.1 48 0 j = z.2.1 48 0 j from rfl]; exact hwz j hj
              · exact ord_T_mv hT sI_at (fun j hj => sI_ne (fun q => hj q.2.2))
      have hf3 : fr (fx [46, 47, 48]) v (gd_sJ u2 48 0 n (rp_w H n)) := (hf.tr (hf2.wk (fun k i j q => by rw [List.mem_singleton.mp q]; exact fx_y rfl))).tr (fr.sJ (fx_y rfl))
      have := inner (ord_R (rp_w H) n) [] (gd_sJ u2 48 0 n (rp_w H n)) rfl (fun x hx => by cases hx) hf3 (fun j hj => ?_) (ord_T0 (fun j hj => ?_))
      · rw [ord_R_len] at this; exact this
      · by_cases e : j = n
        · subst e; exact sJ_at
        · rw [sJ_ne (fun q => e q.2.2), hf2.J (fun _ => fx_n rfl)]; exact hw j (by omega)
      · rw [ord_R_len] at hj
        show u2.1 47 0 j = _
        rw [hf2.I (fun _ => fx_n rfl)]; exact ho j hj
  exact key (Hh H 1) 0 v (by omega) fr.rf (fun j hj => absurd hj (Nat.not_lt_zero j)) (fun j hj => absurd hj (Nat.not_lt_zero j))
end RF2
