/-! WHO STANDS ON WHOM, the class's side -/
/-- own fault by dealer -/
def pt_f (H : hs_T) (T : pt_T) (x : Nat) : Nat → Nat
  | 0 => 0
  | n + 1 => pt_f H T x n + if Hs H n 0 = x then T.2.1 n else 0
theorem pt_f_put {H : hs_T} {T : pt_T} {x s : Nat} {r : List (Nat × Nat) × Nat × (Nat → Nat)} (h0 : T.2.1 s = 0) : ∀ n, pt_f H (pt_put T s r) x n = pt_f H T x n + if s < n then (if Hs H s 0 = x then r.2.1 else 0) else 0
  | 0 => rfl
  | n + 1 => by
    have ih := pt_f_put (H := H) (x := x) (r := r) h0 n
    show pt_f H (pt_put T s r) x n + (if Hs H n 0 = x then (if n = s then r.2.1 else T.2.1 n) else 0) = pt_f H T x n + (if Hs H n 0 = x then T.2.1 n else 0) + _
    rw [ih]
    by_cases e : n = s
    · subst e
      rw [if_neg (Nat.lt_irrefl n), if_pos (Nat.lt_succ_self n), if_pos rfl, h0]
      simp
    · rw [if_neg e]
      by_cases q : s < n
      · rw [if_pos q, if_pos (show s < n + 1 by omega)]; omega
      · rw [if_neg q, if_neg (show ¬ s < n + 1 by omega)]; omega
/-- the cells of a parts object -/
def fp (p : Nat) : List (Nat × Nat) := [(6, p), (24, p), (25, p), (26, p), (27, p), (28, p), (29, p), (30, p)]
/-- parts that lie in a parts object -/
def cp_S (v : gd_D) (p : Nat) (P : Nat → List (Nat × Nat)) (N : Nat) (st : Nat → Nat) (U : Nat) : Prop :=
  (∀ s, s < N → v.1 24 p s = nI (st s) ∧ v.1 25 p s = nI (P s).length ∧ st s + (P s).length ≤ U ∧ ∀ j, j < (P s).length → v.1 26 p (st s + j) = nI ((P s).getD j (0, 0)).1 ∧ v.1 27 p (st s + j) = nI ((P s).getD j (0, 0)).2 ∧ v.1 29 p (st s + j) = nI ((P s).getD j (0, 0)).2) ∧
  ∀ s s', s < N → s' < N → ¬ s = s' → st s + (P s).length ≤ st s' ∨ st s' + (P s').length ≤ st s
theorem nu_min {a b : Nat} (ha : a < 2 ^ 31) (hb : b < 2 ^ 31) : (if nI b < nI a then nI b else nI a) = nI (min a b) := by
  by_cases h : b < a
  · rw [if_pos (nI_lt h ha), Nat.min_eq_right (by omega)]
  · rw [if_neg (nI_nlt (by omega) hb), Nat.min_eq_left (by omega)]
section CP
variable {g : ab_E} {d : Nat} {v : gd_D} {Q : ab_O → gd_D → Prop} {H : hs_T} {h : Nat}
theorem k_fill28 {p : Nat} (hQ : ∀ v', fr (fy [(28, p)]) v v' → (∀ j, j < 8 → v'.1 28 p j = 0) → Q (Sum.inl none) v') : gd_C g mJ7_fill_53178 d 0 0 [zR 28 p, zI 0] v Q := by
  refine c_fill28 (Nat.zero_le _) ?_
  have key : ∀ k i (u : gd_D), i + k = 8 → fr (fy [(28, p)]) v u → (∀ j, j < i → u.1 28 p j = 0) → gd_G g mJ7_fill_53178 d 0 0 5 [(0, zR 28 p), (1, zI 0), (2, zI (nI i)), (3, zI 8)] [] u Q := by
    intro k
    induction k with
    | zero =>
      intro i u hi hf hz
      have e : i = 8 := by omega
      subst e
      exact w_fill28_5 (Nat.zero_le _) (pk_le 8 8 (fun _ => hQ u hf hz) (fun q => absurd q (by omega)))
    | succ k ih =>
      intro i u hi hf hz
      refine w_fill28_5 (Nat.zero_le _) (pk_le 8 i (fun q => absurd q (by omega)) (fun _ => ⟨nu_in (by omega) (by omega), ?_⟩))
      rintro _ rfl
      rw [nI_clamp (by omega), nu_1]
      refine ih (i + 1) _ (by omega) (hf.tr (fr.sI (fy_y 0 rfl))) (fun j hj => ?_)
      by_cases e : j = i
      · subst e; exact sI_at
      · rw [sI_ne (by omega)]; exact hz j (by omega)
  exact key 8 0 v (by omega) fr.rf (fun j hj => absurd hj (Nat.not_lt_zero j))
theorem k_add {p b t U : Nat} (hU : U < 48) (hu : v.1 6 p 7 = nI U) (hQ : Q (Sum.inl none) (gd_sI (gd_sI (gd_sI (gd_sI v 26 p U (nI b)) 27 p U (nI t)) 29 p U (nI t)) 6 p 7 (nI (U + 1)))) : gd_C g mX6_add d 0 0 [zR 6 p, zI (nI b), zI (nI t)] v Q := by
  refine c_X6_add (Nat.zero_le _) (pk_le 48 U (fun q => absurd q (by omega)) (fun _ => ⟨by rw [hu]; exact nu_in hU (by omega), ?_⟩) rfl hu)
  rintro _ rfl
  rw [hu, nI_clamp (by omega)]
  have e1 : (gd_sI v 26 p U (nI b)).1 6 p 7 = nI U := by rw [sI_ne (by omega)]; exact hu
  refine ⟨by rw [e1]; exact nu_in hU (by omega), ?_⟩
  rintro _ rfl
  rw [e1, nI_clamp (by omega)]
  have e2 : (gd_sI (gd_sI v 26 p U (nI b)) 27 p U (nI t)).1 6 p 7 = nI U := by rw [sI_ne (by omega)]; exact e1
  refine ⟨by rw [e2]; exact nu_in hU (by omega), ?_⟩
  rintro _ rfl
  rw [e2, nI_clamp (by omega)]
  rintro _ rfl
  have e3 : (gd_sI (gd_sI (gd_sI v 26 p U (nI b)) 27 p U (nI t)) 29 p U (nI t)).1 6 p 7 = nI U := by rw [sI_ne (by omega)]; exact e2
  rw [e3, nu_1]
  exact hQ
theorem k_standOne {p o s U : Nat} {O : List Nat} {f : Nat → Nat} (hd : 3 ≤ d) (hR : cr_R v h H) (hW : hs_W H) (hO : cr_O v o O) (hOl : O.length = Hh H 1) (hOm : ∀ s ∈ O, s < Hh H 1) (hs : s < Hh H 1) (hu : v.1 6 p 7 = nI U) (hf : ∀ b, b < Hh H 1 → v.1 30 p b = nI (f b) ∧ f b ≤ 1000) (hroom : U + (pt_one H s O (Hs H s 5) f).1.length ≤ 48)
    (hQ : ∀ v', fr (fy (fp p)) v v' → v'.1 6 p 7 = nI (U + (pt_one H s O (Hs H s 5) f).1.length) → (∀ b, b < Hh H 1 → v'.1 30 p b = nI ((pt_one H s O (Hs H s 5) f).2.2 b)) → v'.1 24 p s = nI U → v'.1 25 p s = nI (pt_one H s O (Hs H s 5) f).1.length → (∀ x, ¬ x = s → v'.1 24 p x = v.1 24 p x ∧ v'.1 25 p x = v.1 25 p x) → (∀ j, j < U → v'.1 26 p j = v.1 26 p j ∧ v'.1 27 p j = v.1 27 p j ∧ v'.1 29 p j = v.1 29 p j) → (∀ j, j < (pt_one H s O (Hs H s 5) f).1.length → v'.1 26 p (U + j) = nI ((pt_one H s O (Hs H s 5) f).1.getD j (0, 0)).1 ∧ v'.1 27 p (U + j) = nI ((pt_one H s O (Hs H s 5) f).1.getD j (0, 0)).2 ∧ v'.1 29 p (U + j) = nI ((pt_one H s O (Hs H s 5) f).1.getD j (0, 0)).2) → (∀ x, ¬ x = Hs H s 0 → v'.1 28 p x = v.1 28 p x) → v'.1 28 p (Hs H s 0) = v.1 28 p (Hs H s 0) + nI (pt_one H s O (Hs H s 5) f).2.1 → Q (Sum.inl none) v') : gd_C g mX6_standOne d 0 0 [zR 6 p, zR 2 h, zR 5 o, zI (nI s)] v Q := by
  have h24 := hW.2.1
  have h8 := hW.1
  obtain ⟨s1, s2, s0, s3, s4, s5, s6⟩ := hW.2.2.2.2.2.2.2.2.1 s hs
  refine c_X6_standOne (Nat.zero_le _) ?_
  unfold wp_X6_standOne
  rw [nI_clamp (by omega)]
  refine ⟨nu_in (by omega) (by omega), ?_⟩
  rintro _ rfl
  refine ⟨nu_in (by omega) (by omega), ?_⟩
  rintro _ rfl
  rw [hR.2.2.2.1 s hs 0 (by omega), hR.2.2.2.1 s hs 5 (by omega), hu]
  refine ⟨nu_in (by omega) (by omega), ?_⟩
  rintro _ rfl
  -- the end
  have fin : ∀ (A : List (Nat × Nat)) (n : Nat) (F : Nat → Nat) (u : gd_D), pt_one H s O (Hs H s 5) f = (A, n, F) → fr (fy (fp p)) v u → u.1 6 p 7 = nI (U + A.length) → (∀ b, b < Hh H 1 → u.1 30 p b = nI (F b)) → u.1 24 p s = nI U → (∀ x, ¬ x = s → u.1 24 p x = v.1 24 p x) → u.1 25 p = v.1 25 p → u.1 28 p = v.1 28 p → (∀ j, j < U → u.1 26 p j = v.1 26 p j ∧ u.1 27 p j = v.1 27 p j ∧ u.1 29 p j = v.1 29 p j) → (∀ j, j < A.length → u.1 26 p (U + j) = nI (A.getD j (0, 0)).1 ∧ u.1 27 p (U + j) = nI (A.getD j (0, 0)).2 ∧ u.1 29 p (U + j) = nI (A.getD j (0, 0)).2) → wp_X6_standOne_130 g d p (nI s) (nI (Hs H s 0)) (nI n) u Q := by
    intro A n F u er hfr e6 e30 e24 e24' e25 e28 eold enew
    unfold wp_X6_standOne_130
    rw [nI_clamp (by omega), nI_clamp (by omega), e6, e24]
    refine ⟨nu_in (by omega) (by omega), ?_⟩
    rintro _ rfl
    refine ⟨nu_in (by omega) (by omega), ?_⟩
    rintro _ rfl
    refine ⟨nu_in (by omega) (by omega), nu_in (by omega) (by omega), ?_⟩
    rintro _ rfl
    rw [nu_sub (by omega), show U + A.length - U = A.length from by omega]
    rw [er] at hQ
    refine hQ _ ((hfr.tr (fr.sI (fy_y 2 rfl))).tr (fr.sI (fy_y 5 rfl))) ?_ ?_ ?_ ?_ ?_ ?_ ?_ ?_ ?_
    · rw [sI_ne (by omega), sI_ne (by omega)]; exact e6
    · intro b hb
      rw [sI_ne (by omega), sI_ne (by omega)]; exact e30 b hb
    · rw [sI_ne (by omega), sI_ne (by omega)]; exact e24
    · rw [sI_ne (by omega), sI_at]
    · intro x hx
      rw [sI_ne (by omega), sI_ne (by omega), sI_ne (by omega), sI_ne (by omega), e25]; exact ⟨e24' x hx, rfl⟩
    · intro j hj
      rw [sI_ne (by omega), sI_ne (by omega), sI_ne (by omega), sI_ne (by omega), sI_ne (by omega), sI_ne (by omega)]; exact eold j hj
    · intro j hj
      rw [sI_ne (by omega), sI_ne (by omega), sI_ne (by omega), sI_ne (by omega), sI_ne (by omega), sI_ne (by omega)]; exact enew j hj
    · intro x hx
      rw [sI_ne (by omega), sI_ne (by omega), e28]
    · rw [sI_at, sI_ne (by omega), e28]
  have key : ∀ (l : List Nat) (i n : Nat) (F : Nat → Nat) (A : List (Nat × Nat)) (u : gd_D), O.drop i = l → i ≤ O.length → n ≤ 1000 → pt_one H s O (Hs H s 5) f = (A ++ (pt_one H s l n F).1, (pt_one H s l n F).2) → fr (fy (fp p)) v u → u.1 6 p 7 = nI (U + A.length) → (∀ b, b < Hh H 1 → u.1 30 p b = nI (F b) ∧ F b ≤ 1000) → u.1 24 p s = nI U → (∀ x, ¬ x = s → u.1 24 p x = v.1 24 p x) → u.1 25 p = v.1 25 p → u.1 28 p = v.1 28 p → (∀ j, j < U → u.1 26 p j = v.1 26 p j ∧ u.1 27 p j = v.1 27 p j ∧ u.1 29 p j = v.1 29 p j) → (∀ j, j < A.length → u.1 26 p (U + j) = nI (A.getD j (0, 0)).1 ∧ u.1 27 p (U + j) = nI (A.getD j (0, 0)).2 ∧ u.1 29 p (U + j) = nI (A.getD j (0, 0)).2) → gd_G g mX6_standOne d 0 0 35 [(0, zR 6 p), (1, zR 2 h), (2, zR 5 o), (3, zI (nI s)), (4, zI (nI (Hs H s 0))), (5, zI (nI n)), (6, zI (nI i))] [] u Q := by
    intro l
    induction l with
    | nil =>
      intro i n F A u hl hi hn er hfr e6 e30 e24 e24' e25 e28 eold enew
      have ei := drop_end hl hi
      have hO' : cr_O u o O := ⟨by rw [hfr.I (fun _ => fy_n rfl)]; exact hO.1, fun j hj => by rw [hfr.I (fun _ => fy_n rfl)]; exact hO.2 j hj⟩
      refine w_X6_standOne_35 hd (pk_le O.length i (fun _ => fin A n F u ?_ hfr e6 (fun b hb => (e30 b hb).1) e24 e24' e25 e28 eold enew) (fun q => absurd q (by omega)) hO'.1 rfl (by omega) (by omega))
      rw [er]
      show (A ++ [], n, F) = _
      rw [List.append_nil]
    | cons b l ih =>
      intro i n F A u hl hi hn er hfr e6 e30 e24 e24' e25 e28 eold enew
      obtain ⟨hi2, hb0, hl2, hmem⟩ := drop_at hl
      have hb : b < Hh H 1 := hOm b hmem
      have hO' : cr_O u o O := ⟨by rw [hfr.I (fun _ => fy_n rfl)]; exact hO.1, fun j hj => by rw [hfr.I (fun _ => fy_n rfl)]; exact hO.2 j hj⟩
      have hR' : cr_R u h H := hR.far hW hfr (fun _ _ => fy_n rfl) (fun _ _ => fy_n rfl) (fun _ _ => fy_n rfl) (fun _ _ => fy_n rfl)
      have eO : u.1 21 o i = nI b := by rw [hO'.2 i hi2, hb0]
      obtain ⟨b1, b2', -, -, -, -, -⟩ := hW.2.2.2.2.2.2.2.2.1 b hb
      have hF := e30 b hb
      have no : ¬ (Hs H b 1 = Hs H s 0 ∧ 0 < n ∧ 0 < F b) → gd_G g mX6_standOne d 0 0 35 [(0, zR 6 p), (1, zR 2 h), (2, zR 5 o), (3, zI (nI s)), (4, zI (nI (Hs H s 0))), (5, zI (nI n)), (6, zI (nI i + 1))] [] u Q := by
        intro c
        rw [pt_one_c, if_neg c] at er
        rw [nu_1]
        exact ih (i + 1) n F A u hl2 (by omega) hn er hfr e6 e30 e24 e24' e25 e28 eold enew
      refine w_X6_standOne_35 hd (pk_le O.length i (fun q => absurd q (by omega)) (fun _ => pk_le n 0 (fun z => ?_) (fun z => ⟨nu_in (by omega) (by omega), ?_⟩) rfl rfl (by omega) (by omega)) hO'.1 rfl (by omega) (by omega))
      · have e : n = 0 := by omega
        subst e
        refine fin A 0 F u ?_ hfr e6 (fun b hb => (e30 b hb).1) e24 e24' e25 e28 eold enew
        rw [er, pt_one_0]
        show (A ++ [], 0, F) = _
        rw [List.append_nil]
      · rw [nI_clamp (by omega), eO, nI_clamp (by omega)]
        refine ⟨nu_in (by omega) (by omega), ?_⟩
        rintro _ rfl
        rw [hR'.2.2.2.1 b hb 1 (by omega), nI_eq (by omega) (by omega), hF.1]
        refine ⟨fun c => no (fun q => c q.1), fun c => ⟨nu_in (by omega) (by omega), ?_⟩⟩
        rintro _ rfl
        refine pk_le (F b) 0 (fun z2 => no (fun q => by omega)) (fun z2 => ⟨nu_in (by omega) (by omega), ?_⟩) rfl rfl (by omega) (by omega)
        rintro _ rfl
        refine c_minI ?_
        rw [nu_min (by omega) (by omega)]
        rw [pt_one_c, if_pos ⟨c, z, z2⟩] at er
        refine ⟨nu_in (by omega) (by omega), ?_⟩
        rintro _ rfl
        rw [hF.1, nu_sub (Nat.min_le_right _ _)]
        refine ⟨nu_in (by omega) (by omega), ?_⟩
        rintro _ rfl
        have hlen : U + (A.length + 1) ≤ 48 := by
          rw [er] at hroom
          simp only [List.length_append, List.length_cons] at hroom
          omega
        have e6' : (gd_sI u 30 p b (nI (F b - min n (F b)))).1 6 p 7 = nI (U + A.length) := by rw [sI_ne (by omega)]; exact e6
        refine k_add (U := U + A.length) (by omega) e6' ?_
        rw [gd_rV_at, nu_sub (Nat.min_le_left _ _), nu_1]
        refine ih (i + 1) (n - min n (F b)) (fun x => if x = b then F b - min n (F b) else F x) (A ++ [(b, min n (F b))]) _ hl2 (by omega) (by omega) ?_ (((((hfr.tr (fr.sI (fy_y 7 rfl))).tr (fr.sI (fy_y 3 rfl))).tr (fr.sI (fy_y 4 rfl))).tr (fr.sI (fy_y 6 rfl))).tr (fr.sI (fy_y 0 rfl))) ?_ ?_ ?_ ?_ ?_ ?_ ?_ ?_
        · rw [er, List.append_assoc]; rfl
        · rw [sI_at, List.length_append]; rfl
        · intro x hx
          rw [sI_ne (by omega), sI_ne (by omega), sI_ne (by omega), sI_ne (by omega)]
          by_cases q : x = b
          · subst q
            rw [sI_at, if_pos rfl]
            exact ⟨rfl, by omega⟩
          · rw [sI_ne (by omega), if_neg q]; exact e30 x hx
        · rw [sI_ne (by omega), sI_ne (by omega), sI_ne (by omega), sI_ne (by omega), sI_ne (by omega)]; exact e24
        · intro x hx
          rw [sI_ne (by omega), sI_ne (by omega), sI_ne (by omega), sI_ne (by omega), sI_ne (by omega)]; exact e24' x hx
        · rw [sI_off (by omega), sI_off (by omega), sI_off (by omega), sI_off (by omega), sI_off (by omega)]; exact e25
        · rw [sI_off (by omega), sI_off (by omega), sI_off (by omega), sI_off (by omega), sI_off (by omega)]; exact e28
        · intro j hj
          refine ⟨?_, ?_, ?_⟩
          · rw [sI_ne (by omega), sI_ne (by omega), sI_ne (by omega), sI_ne (by omega), sI_ne (by omega)]; exact (eold j hj).1
          · rw [sI_ne (by omega), sI_ne (by omega), sI_ne (by omega), sI_ne (by omega), sI_ne (by omega)]; exact (eold j hj).2.1
          · rw [sI_ne (by omega), sI_ne (by omega), sI_ne (by omega), sI_ne (by omega), sI_ne (by omega)]; exact (eold j hj).2.2
        · intro j hj
          rw [List.length_append] at hj
          have hj' : j < A.length + 1 := hj
          by_cases q : j = A.length
          · subst q
            have eg : (A ++ [(b, min n (F b))]).getD A.length (0, 0) = (b, min n (F b)) := by
              rw [List.getD_eq_getElem?_getD, List.getElem?_append_right (Nat.le_refl _), Nat.sub_self]; rfl
            rw [eg]
            refine ⟨?_, ?_, ?_⟩
            · rw [sI_ne (by omega), sI_ne (by omega), sI_ne (by omega), sI_at]
            · rw [sI_ne (by omega), sI_ne (by omega), sI_at]
            · rw [sI_ne (by omega), sI_at]
          · have eg : (A ++ [(b, min n (F b))]).getD j (0, 0) = A.getD j (0, 0) := by
              rw [List.getD_eq_getElem?_getD, List.getElem?_append_left (by omega), ← List.getD_eq_getElem?_getD]
            rw [eg]
            refine ⟨?_, ?_, ?_⟩
            · rw [sI_ne (by omega), sI_ne (by omega), sI_ne (by omega), sI_ne (by omega), sI_ne (by omega)]; exact (enew j (by omega)).1
            · rw [sI_ne (by omega), sI_ne (by omega), sI_ne (by omega), sI_ne (by omega), sI_ne (by omega)]; exact (enew j (by omega)).2.1
            · rw [sI_ne (by omega), sI_ne (by omega), sI_ne (by omega), sI_ne (by omega), sI_ne (by omega)]; exact (enew j (by omega)).2.2
  refine key O 0 (Hs H s 5) f [] _ rfl (Nat.zero_le _) (by omega) rfl (fr.sI (fy_y 1 rfl)) ?_ ?_ sI_at ?_ ?_ ?_ ?_ ?_
  · rw [sI_ne (by omega)]; exact hu
  · intro b hb; rw [sI_ne (by omega)]; exact hf b hb
  · intro x hx; rw [sI_ne (by omega)]
  · exact sI_off (by omega)
  · exact sI_off (by omega)
  · intro j hj; rw [sI_ne (by omega), sI_ne (by omega), sI_ne (by omega)]; exact ⟨rfl, rfl, rfl⟩
  · intro j hj; exact absurd hj (Nat.not_lt_zero j)
theorem pt_go_c {H : hs_T} {O l : List Nat} {s : Nat} {T : pt_T} : pt_go H O (s :: l) T = pt_go H O l (if hq H s then pt_put T s (pt_one H s O (Hs H s 5) T.2.2) else T) := rfl
/-- what is free only falls -/
theorem pt_one_fall {H : hs_T} {s b : Nat} : ∀ (l : List Nat) (n : Nat) (f : Nat → Nat), (pt_one H s l n f).2.2 b ≤ f b
  | [], n, f => Nat.le_refl _
  | a :: l, n, f => by
    rw [pt_one_c]
    by_cases c : Hs H a 1 = Hs H s 0 ∧ 0 < n ∧ 0 < f a
    · rw [if_pos c]
      refine Nat.le_trans (pt_one_fall l (n - min n (f a)) (fun x => if x = a then f a - min n (f a) else f x)) ?_
      by_cases e : b = a
      · subst e; rw [if_pos rfl]; omega
      · rw [if_neg e]; exact Nat.le_refl _
    · rw [if_neg c]; exact pt_one_fall l n f
theorem k_stand {p o : Nat} {O : List Nat} (hd : 4 ≤ d) (hR : cr_R v h H) (hW : hs_W H) (hO : cr_O v o O) (hOl : O.length = Hh H 1) (hOm : ∀ s ∈ O, s < Hh H 1) (hOn : O.Nodup)
    (hQ : ∀ v' st, fr (fy (fp p)) v v' → cp_S v' p (pt_all H O).1 (Hh H 1) st 48 → (∀ x, x < 8 → v'.1 28 p x = nI (pt_f H (pt_all H O) x (Hh H 1))) → Q (Sum.inl none) v') : gd_C g mX6_stand d 0 0 [zR 6 p, zR 2 h, zR 5 o] v Q := by
  have h24 := hW.2.1
  have h8 := hW.1
  refine c_X6_stand (by omega) ?_
  rintro _ rfl
  refine k_fill28 (fun v2 f2 z2 => ?_)
  rw [gd_rV_at]
  -- the second loop
  have loop2 : ∀ (l : List Nat) (i U : Nat) (T : pt_T) (st : Nat → Nat) (u : gd_D), O.drop i = l → i ≤ O.length → l.Nodup → pt_go H O l T = pt_all H O → (∀ s ∈ l, T.2.1 s = 0) → (∀ b, b < Hh H 1 → T.2.2 b ≤ 1000) → U + pt_c T.2.2 (Hh H 1) ≤ i + Hh H 1 → fr (fy (fp p)) v u → u.1 6 p 7 = nI U → (∀ b, b < Hh H 1 → u.1 30 p b = nI (T.2.2 b)) → cp_S u p T.1 (Hh H 1) st U → (∀ x, x < 8 → u.1 28 p x = nI (pt_f H T x (Hh H 1))) → gd_G g mX6_stand d 0 0 72 [(0, zR 6 p), (1, zR 2 h), (2, zR 5 o), (3, zI (nI i))] [] u Q := by
    intro l
    induction l with
    | nil =>
      intro i U T st u hl hi hn ego h0 hT hroom hfr e6 e30 eS e28
      have ei := drop_end hl hi
      have hO' : cr_O u o O := ⟨by rw [hfr.I (fun _ => fy_n rfl)]; exact hO.1, fun j hj => by rw [hfr.I (fun _ => fy_n rfl)]; exact hO.2 j hj⟩
      have ego' : T = pt_all H O := ego
      subst ego'
      refine w_X6_stand_72 hd (pk_le O.length i (fun _ => hQ u st hfr ⟨fun s hs => ?_, eS.2⟩ e28) (fun q => absurd q (by omega)) hO'.1 rfl (by omega) (by omega))
      obtain ⟨a1, a2, a3, a4⟩ := eS.1 s hs
      exact ⟨a1, a2, by omega, a4⟩
    | cons s l ih =>
      intro i U T st u hl hi hn ego h0 hT hroom hfr e6 e30 eS e28
      obtain ⟨hi2, hs0, hl2, hmem⟩ := drop_at hl
      obtain ⟨hnot, hn2⟩ := List.nodup_cons.mp hn
      have hs : s < Hh H 1 := hOm s hmem
      have hO' : cr_O u o O := ⟨by rw [hfr.I (fun _ => fy_n rfl)]; exact hO.1, fun j hj => by rw [hfr.I (fun _ => fy_n rfl)]; exact hO.2 j hj⟩
      have hR' : cr_R u h H := hR.far hW hfr (fun _ _ => fy_n rfl) (fun _ _ => fy_n rfl) (fun _ _ => fy_n rfl) (fun _ _ => fy_n rfl)
      have eO : u.1 21 o i = nI s := by rw [hO'.2 i hi2, hs0]
      rw [pt_go_c] at ego
      refine w_X6_stand_72 hd (pk_le O.length i (fun q => absurd q (by omega)) (fun _ => ⟨nu_in (by omega) (by omega), ?_⟩) hO'.1 rfl (by omega) (by omega))
      rw [nI_clamp (by omega), eO]
      refine k_isAsked hR' hW hs ⟨fun hc => ?_, fun hc => ⟨nu_in (by omega) (by omega), ?_⟩⟩
      · rw [b2_0 hc, if_neg Bool.false_ne_true] at ego
        rw [nu_1]
        exact ih (i + 1) U T st u hl2 (by omega) hn2 ego (fun x hx => h0 x (List.mem_cons_of_mem s hx)) hT (by omega) hfr e6 e30 eS e28
      · rw [b2_1 hc, if_pos rfl] at ego
        have room := pt_one_room (H := H) (s := s) O (Hs H s 5) T.2.2 hOm
        rw [eO]
        have hsell := (hW.2.2.2.2.2.2.2.2.1 s hs).1
        refine k_standOne (f := T.2.2) (U := U) (Nat.le_refl 3) hR' hW hO' hOl hOm hs e6 (fun b hb => ⟨e30 b hb, hT b hb⟩) (by omega) (fun v3 f3 g6 g30 g24 g25 gx gold gnew g28x g28 => ?_)
        rw [gd_rV_at, nu_1]
        refine ih (i + 1) (U + (pt_one H s O (Hs H s 5) T.2.2).1.length) (pt_put T s (pt_one H s O (Hs H s 5) T.2.2)) (fun x => if x = s then U else st x) v3 hl2 (by omega) hn2 ego ?_ ?_ ?_ (hfr.tr f3) g6 g30 ⟨?_, ?_⟩ ?_
        · intro x hx
          show (if x = s then _ else T.2.1 x) = 0
          rw [if_neg (fun q => hnot (by rw [← q]; exact hx))]
          exact h0 x (List.mem_cons_of_mem s hx)
        · intro b hb; exact Nat.le_trans (pt_one_fall O _ _) (hT b hb)
        · show U + _ + pt_c (pt_one H s O (Hs H s 5) T.2.2).2.2 (Hh H 1) ≤ _
          omega
        · intro x hx
          show v3.1 24 p x = nI (if x = s then U else st x) ∧ v3.1 25 p x = nI (if x = s then (pt_one H s O (Hs H s 5) T.2.2).1 else T.1 x).length ∧ (if x = s then U else st x) + (if x = s then (pt_one H s O (Hs H s 5) T.2.2).1 else T.1 x).length ≤ _ ∧ ∀ j, j < (if x = s then (pt_one H s O (Hs H s 5) T.2.2).1 else T.1 x).length → v3.1 26 p ((if x = s then U else st x) + j) = nI ((if x = s then (pt_one H s O (Hs H s 5) T.2.2).1 else T.1 x).getD j (0, 0)).1 ∧ v3.1 27 p ((if x = s then U else st x) + j) = nI ((if x = s then (pt_one H s O (Hs H s 5) T.2.2).1 else T.1 x).getD j (0, 0)).2 ∧ v3.1 29 p ((if x = s then U else st x) + j) = nI ((if x = s then (pt_one H s O (Hs H s 5) T.2.2).1 else T.1 x).getD j (0, 0)).2
          by_cases q : x = s
          · subst q
            simp only [if_pos]
            exact ⟨g24, g25, Nat.le_refl _, gnew⟩
          · simp only [if_neg q]
            obtain ⟨a1, a2, a3, a4⟩ := eS.1 x hx
            refine ⟨(gx x q).1.trans a1, (gx x q).2.trans a2, by omega, fun j hj => ?_⟩
            obtain ⟨o1, o2, o3⟩ := gold (st x + j) (by omega)
            rw [o1, o2, o3]; exact a4 j hj
        · intro x y hx hy hxy
          show (if x = s then U else st x) + (if x = s then (pt_one H s O (Hs H s 5) T.2.2).1 else T.1 x).length ≤ (if y = s then U else st y) ∨ (if y = s then U else st y) + (if y = s then (pt_one H s O (Hs H s 5) T.2.2).1 else T.1 y).length ≤ (if x = s then U else st x)
          have ax := (eS.1 x hx).2.2.1
          have ay := (eS.1 y hy).2.2.1
          by_cases q : x = s
          · have q2 : ¬ y = s := fun e => hxy (q.trans e.symm)
            simp only [if_pos q, if_neg q2]
            exact Or.inr ay
          · by_cases q2 : y = s
            · simp only [if_neg q, if_pos q2]
              exact Or.inl ax
            · simp only [if_neg q, if_neg q2]
              exact eS.2 x y hx hy hxy
        · intro x hx
          rw [pt_f_put (h0 s List.mem_cons_self), if_pos hs]
          by_cases q : Hs H s 0 = x
          · subst q
            rw [if_pos rfl, g28, e28 _ hx, nI_add]
          · rw [if_neg q, g28x x (fun e => q e.symm)]
            exact e28 x hx
  -- the first loop
  have y0 : fr (fy (fp p)) v (gd_sI v 6 p 7 0) := fr.sI (fy_y 0 rfl)
  have key : ∀ k i (u : gd_D), i + k = Hh H 1 → fr (fy (fp p)) v u → u.1 6 p 7 = 0 → (∀ x, x < 8 → u.1 28 p x = 0) → (∀ b, b < i → u.1 30 p b = nI ((pt_0 H).2.2 b) ∧ u.1 24 p b = 0 ∧ u.1 25 p b = 0) → gd_G g mX6_stand d 0 0 15 [(0, zR 6 p), (1, zR 2 h), (2, zR 5 o), (3, zI (nI i))] [] u Q := by
    intro k
    induction k with
    | zero =>
      intro i u hi hfr e6 e28 eb
      have e : i = Hh H 1 := by omega
      subst e
      have hR' : cr_R u h H := hR.far hW hfr (fun _ _ => fy_n rfl) (fun _ _ => fy_n rfl) (fun _ _ => fy_n rfl) (fun _ _ => fy_n rfl)
      refine w_X6_stand_15 (by omega) (pk_le (Hh H 1) (Hh H 1) (fun _ => ?_) (fun q => absurd q (Nat.lt_irrefl _)) (hR'.1 1 (by omega)) rfl (by omega) (by omega))
      refine loop2 O 0 0 (pt_0 H) (fun _ => 0) u rfl (Nat.zero_le _) hOn rfl (fun s hs => rfl) (fun b hb => ?_) (by have := pt_c_le (pt_0 H).2.2 (Hh H 1); omega) hfr e6 (fun b hb => (eb b hb).1) ⟨fun s hs => ⟨(eb s hs).2.1, (eb s hs).2.2, Nat.le_refl 0, fun j hj => absurd hj (Nat.not_lt_zero j)⟩, fun s s' _ _ _ => Or.inl (Nat.le_refl 0)⟩ (fun x hx => ?_)
      · show (if hq H b then Hs H b 5 else 0) ≤ 1000
        have := hs_S5 (hW.2.2.2.2.2.2.2.2.1 b hb)
        have := (hW.2.2.2.2.2.2.2.2.1 b hb).2.2.2.1
        split <;> omega
      · rw [e28 x hx]
        have : ∀ n, pt_f H (pt_0 H) x n = 0 := by
          intro n
          induction n with
          | zero => rfl
          | succ n ih => show pt_f H (pt_0 H) x n + (if Hs H n 0 = x then 0 else 0) = 0; rw [ih]; simp
        rw [this]; rfl
    | succ k ih =>
      intro i u hi hfr e6 e28 eb
      have hlt : i < Hh H 1 := by omega
      have hR' : cr_R u h H := hR.far hW hfr (fun _ _ => fy_n rfl) (fun _ _ => fy_n rfl) (fun _ _ => fy_n rfl) (fun _ _ => fy_n rfl)
      have fin : ∀ x : Nat, x = (pt_0 H).2.2 i → wp_X6_stand_49 g d p h o (nI i) p (nI i) (nI x) u Q := by
        rintro _ rfl
        unfold wp_X6_stand_49
        rw [nI_clamp (by omega), nu_1]
        refine ⟨nu_in (by omega) (by omega), ?_⟩
        rintro _ rfl
        refine ⟨nu_in (by omega) (by omega), ?_⟩
        rintro _ rfl
        refine ⟨nu_in (by omega) (by omega), ?_⟩
        rintro _ rfl
        refine ih (i + 1) _ (by omega) (((hfr.tr (fr.sI (fy_y 7 rfl))).tr (fr.sI (fy_y 1 rfl))).tr (fr.sI (fy_y 2 rfl))) ?_ ?_ ?_
        · rw [sI_ne (by omega), sI_ne (by omega), sI_ne (by omega)]; exact e6
        · intro x hx; rw [sI_ne (by omega), sI_ne (by omega), sI_ne (by omega)]; exact e28 x hx
        · intro b hb
          by_cases q : b = i
          · subst q
            refine ⟨?_, ?_, sI_at⟩
            · rw [sI_ne (by omega), sI_ne (by omega), sI_at]
            · rw [sI_ne (by omega), sI_at]
          · obtain ⟨q1, q2, q3⟩ := eb b (by omega)
            refine ⟨?_, ?_, ?_⟩
            · rw [sI_ne (by omega), sI_ne (by omega), sI_ne (by omega)]; exact q1
            · rw [sI_ne (by omega), sI_ne (by omega), sI_ne (by omega)]; exact q2
            · rw [sI_ne (by omega), sI_ne (by omega), sI_ne (by omega)]; exact q3
      refine w_X6_stand_15 (by omega) (pk_le (Hh H 1) i (fun q => absurd q (by omega)) (fun _ => k_isAsked hR' hW hlt ⟨fun hc => ?_, fun hc => ⟨nu_in (by omega) (by omega), ?_⟩⟩) (hR'.1 1 (by omega)) rfl (by omega) (by omega))
      · refine fin 0 ?_
        show 0 = if hq H i then Hs H i 5 else 0
        rw [b2_0 hc]; rfl
      · rintro _ rfl
        rw [nI_clamp (by omega), hR'.2.2.2.1 i hlt 5 (by omega)]
        refine fin _ ?_
        show Hs H i 5 = if hq H i then Hs H i 5 else 0
        rw [b2_1 hc]; rfl
  refine key (Hh H 1) 0 v2 (by omega) (y0.tr (f2.wk (fy_1 5 rfl))) ?_ z2 (fun b hb => absurd hb (Nat.not_lt_zero b))
  rw [f2.I (fun _ => fy_n rfl)]; exact sI_at
end CP
