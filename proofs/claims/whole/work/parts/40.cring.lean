/-! RINGS, the class's side -/
noncomputable def rg_get (H : hs_T) (O : List Nat) : Option (List Nat) := @dite (Option (List Nat)) (∃ R, rg_F H O R) (Classical.propDecidable _) (fun h => some (Classical.choose h)) (fun _ => none)
theorem rg_get_some {H : hs_T} {O R : List Nat} (h : rg_F H O R) : rg_get H O = some R := by
  unfold rg_get
  have he : ∃ R, rg_F H O R := ⟨R, h⟩
  rw [dif_pos he]
  rw [rg_F_un (Classical.choose_spec he) h]
theorem rg_get_none {H : hs_T} {O : List Nat} (h : ∀ R, ¬ rg_F H O R) : rg_get H O = none := by
  unfold rg_get
  exact dif_neg (fun ⟨R, hR⟩ => h R hR)
theorem rg_get_F {H : hs_T} {O R : List Nat} (h : rg_get H O = some R) : rg_F H O R := by
  unfold rg_get at h
  by_cases he : ∃ R, rg_F H O R
  · rw [dif_pos he] at h
    rw [← Option.some.inj h]; exact Classical.choose_spec he
  · rw [dif_neg he] at h; cases h
/-- a ring can be closed: then its first sale is among them; so with no such sale there is none -/
theorem rg_F_no {H : hs_T} {O : List Nat} (h : ∀ s ∈ O, ¬ rg_X H [s]) (hO : ∀ s, s < Hh H 1 → s ∈ O) : ∀ R, ¬ rg_F H O R := by
  intro R hF
  have hX := rg_X.done hF.1 hF.2.1
  obtain ⟨s, T, e, -⟩ := hF.2.1
  have hne : ¬ R = [] := by rw [e]; exact fun q => by cases q
  have e2 : R = R.dropLast ++ [R.getLast hne] := (List.dropLast_concat_getLast hne).symm
  have hl : R.getLast hne ∈ R := List.getLast_mem hne
  rw [e2] at hX
  exact h _ (hO _ (hF.1.mem _ hl).1) (rg_X.suf hX)
theorem pc_le {f k : Nat → Nat} (h : ∀ x, 0 < f x → 0 < k x) : ∀ n, pt_c f n ≤ pt_c k n
  | 0 => Nat.le_refl 0
  | n + 1 => by
    have ih := pc_le h n
    show pt_c f n + _ ≤ pt_c k n + _
    by_cases e : 0 < f n
    · rw [if_pos e, if_pos (h n e)]; omega
    · rw [if_neg e]; omega
theorem pc_lt {f k : Nat → Nat} (h : ∀ x, 0 < f x → 0 < k x) {z : Nat} (h1 : ¬ 0 < f z) (h2 : 0 < k z) : ∀ n, z < n → pt_c f n < pt_c k n
  | 0, hz => absurd hz (Nat.not_lt_zero z)
  | n + 1, hz => by
    show pt_c f n + _ < pt_c k n + _
    by_cases e : z = n
    · subst e
      have := pc_le h z
      rw [if_neg h1, if_pos h2]; omega
    · have ih := pc_lt h h1 h2 n (by omega)
      by_cases e2 : 0 < f n
      · rw [if_pos e2, if_pos (h n e2)]; omega
      · rw [if_neg e2]; omega
theorem pc_full {f : Nat → Nat} : ∀ n, n ≤ pt_c f n → ∀ x, x < n → 0 < f x
  | 0, _, x, hx => absurd hx (Nat.not_lt_zero x)
  | n + 1, h, x, hx => by
    have h1 := pt_c_le f n
    have h2 : n + 1 ≤ pt_c f n + if 0 < f n then 1 else 0 := h
    by_cases e : 0 < f n
    · by_cases q : x = n
      · subst q; exact e
      · rw [if_pos e] at h2
        exact pc_full n (by omega) x (by omega)
    · rw [if_neg e] at h2; omega
/-- how many dealers a set has -/
def bt_c (w : Int32) : Nat := pt_c (fun z => if bt w z then 1 else 0) 8
theorem bt_c1 {w : Int32} {z : Nat} : 0 < (if bt w z then 1 else 0) ↔ bt w z = true := by cases bt w z <;> simp
theorem bt_nz {w : Int32} : (¬ w = 0) ↔ ∃ z, z < 32 ∧ bt w z = true := by
  constructor
  · intro h
    apply Classical.byContradiction
    intro q
    apply h
    apply bt_ext
    intro z hz
    rw [bt_0]
    cases e : bt w z with
    | false => rfl
    | true => exact absurd ⟨z, hz, e⟩ q
  · rintro ⟨z, _, h⟩ e
    rw [e, bt_0] at h
    cases h
theorem bt_big {w : Int32} {z : Nat} (h : 32 ≤ z) : bt w z = false := by
  unfold bt; exact BitVec.getLsbD_of_ge _ _ h
/-- sellers' buyers as the class sees them -/
def cb_R (v : gd_D) (r : Nat) (H : hs_T) : Prop := ∀ z, z < 8 → ∀ y, y < 32 → (bt (v.1 37 r z) y = true ↔ rg_e H z y)
section CR
variable {g : ab_E} {d : Nat} {v : gd_D} {Q : ab_O → gd_D → Prop} {H : hs_T} {h : Nat}
theorem k_isFit {i : Nat} (hR : cr_R v h H) (hW : hs_W H) (hi : i < Hh H 1) (hQ : Q (Sum.inl (some (zI (b2 (rg_fit H i))))) v) : gd_C g mX8_isFit d 0 0 [zR 2 h, zI (nI i)] v Q := by
  have h5 := hW.V.five hi
  obtain ⟨s1, s2, s0, s3, s4, s5, s6⟩ := hW.2.2.2.2.2.2.2.2.1 i hi
  have h24 := hW.2.1
  have hday := hW.2.2.1
  have hlot := hW.2.2.2.2.2.1
  refine c_X8_isFit (Nat.zero_le _) ?_
  unfold wp_X8_isFit
  rw [nI_clamp (by omega)]
  refine ⟨nu_in (by omega) (by omega), ?_⟩
  rintro _ rfl
  rw [hR.2.2.2.1 i hi 4 (by omega), hR.2.2.2.1 i hi 5 (by omega), show v.1 2 h 4 = nI (Hh H 2) from hR.1 2 (by omega), show v.1 2 h 7 = nI (Hh H 5) from hR.1 5 (by omega)]
  refine pk_lt (Hh H 2) (Hs H i 4) (fun q => ?_) (fun q => ⟨nu_in (by omega) (by omega), ?_⟩) rfl rfl (by omega) (by omega)
  · rw [show rg_fit H i = false from by unfold rg_fit; rw [decide_eq_false (by omega)]; rfl] at hQ
    exact hQ
  · rintro _ rfl
    refine pk_lt (Hs H i 5) (Hh H 5) (fun q2 => ?_) (fun q2 => ?_) rfl rfl (by omega) (by omega)
    · rw [show rg_fit H i = false from by unfold rg_fit; rw [decide_eq_false (show ¬ Hh H 5 ≤ Hs H i 5 by omega), Bool.and_false]] at hQ
      exact hQ
    · rw [show rg_fit H i = true from by unfold rg_fit; rw [decide_eq_true (show Hh H 5 ≤ Hs H i 5 by omega), decide_eq_true (show Hs H i 4 ≤ Hh H 2 by omega)]; rfl] at hQ
      exact hQ
theorem k_fill37 {p : Nat} (hQ : ∀ v', fr (fy [(37, p)]) v v' → (∀ j, j < 8 → v'.1 37 p j = 0) → Q (Sum.inl none) v') : gd_C g mJ7_fill_53178 d 0 0 [zR 37 p, zI 0] v Q := by
  refine c_fill37 (Nat.zero_le _) ?_
  have key : ∀ k i (u : gd_D), i + k = 8 → fr (fy [(37, p)]) v u → (∀ j, j < i → u.1 37 p j = 0) → gd_G g mJ7_fill_53178 d 0 0 5 [(0, zR 37 p), (1, zI 0), (2, zI (nI i)), (3, zI 8)] [] u Q := by
    intro k
    induction k with
    | zero =>
      intro i u hi hf hz
      have e : i = 8 := by omega
      subst e
      exact w_fill37_5 (Nat.zero_le _) (pk_le 8 8 (fun _ => hQ u hf hz) (fun q => absurd q (by omega)))
    | succ k ih =>
      intro i u hi hf hz
      refine w_fill37_5 (Nat.zero_le _) (pk_le 8 i (fun q => absurd q (by omega)) (fun _ => ⟨nu_in (by omega) (by omega), ?_⟩))
      rintro _ rfl
      rw [nI_clamp (by omega), nu_1]
      refine ih (i + 1) _ (by omega) (hf.tr (fr.sI (fy_y 0 rfl))) (fun j hj => ?_)
      by_cases e : j = i
      · subst e; exact sI_at
      · rw [sI_ne (by omega)]; exact hz j (by omega)
  exact key 8 0 v (by omega) fr.rf (fun j hj => absurd hj (Nat.not_lt_zero j))
theorem k_seeBuyers {r : Nat} (hd : 3 ≤ d) (hR : cr_R v h H) (hW : hs_W H) (hQ : ∀ v', fr (fy [(37, r)]) v v' → cb_R v' r H → Q (Sum.inl none) v') : gd_C g mX8_seeBuyers d 0 0 [zR 8 r, zR 2 h] v Q := by
  have h24 := hW.2.1
  have h8 := hW.1
  refine c_X8_seeBuyers hd (k_fill37 (fun v1 f1 z1 => ?_))
  rw [gd_rV_at]
  have key : ∀ k i (u : gd_D), i + k = Hh H 1 → fr (fy [(37, r)]) v u → (∀ z, z < 8 → ∀ y, y < 32 → (bt (u.1 37 r z) y = true ↔ ∃ s, s < i ∧ rg_fit H s = true ∧ Hs H s 0 = z ∧ Hs H s 1 = y)) → gd_G g mX8_seeBuyers d 0 0 10 [(0, zR 8 r), (1, zR 2 h), (2, zI (nI i))] [] u Q := by
    intro k
    induction k with
    | zero =>
      intro i u hi hf hb
      have e : i = Hh H 1 := by omega
      subst e
      have hR' : cr_R u h H := hR.far hW hf (fun _ _ => fy_n rfl) (fun _ _ => fy_n rfl) (fun _ _ => fy_n rfl) (fun _ _ => fy_n rfl)
      exact w_X8_seeBuyers_10 hd (pk_le (Hh H 1) (Hh H 1) (fun _ => hQ u hf hb) (fun q => absurd q (Nat.lt_irrefl _)) (hR'.1 1 (by omega)) rfl (by omega) (by omega))
    | succ k ih =>
      intro i u hi hf hb
      have hlt : i < Hh H 1 := by omega
      have hR' : cr_R u h H := hR.far hW hf (fun _ _ => fy_n rfl) (fun _ _ => fy_n rfl) (fun _ _ => fy_n rfl) (fun _ _ => fy_n rfl)
      obtain ⟨s1, s2, -, -, -, -, -⟩ := hW.2.2.2.2.2.2.2.2.1 i hlt
      refine w_X8_seeBuyers_10 hd (pk_le (Hh H 1) i (fun q => absurd q (by omega)) (fun _ => k_isFit hR' hW hlt ⟨fun hc => ?_, fun hc => ⟨nu_in (by omega) (by omega), ?_⟩⟩) (hR'.1 1 (by omega)) rfl (by omega) (by omega))
      · have e := b2_0 hc
        rw [nu_1]
        refine ih (i + 1) u (by omega) hf (fun z hz y hy => (hb z hz y hy).trans ⟨fun ⟨s, q1, q2⟩ => ⟨s, by omega, q2⟩, fun ⟨s, q1, q2, q3⟩ => ⟨s, ?_, q2, q3⟩⟩)
        have : ¬ s = i := fun q => by rw [q, e] at q2; cases q2
        omega
      · have e := b2_1 hc
        rintro _ rfl
        rw [nI_clamp (by omega), hR'.2.2.2.1 i hlt 0 (by omega), nI_clamp (by omega)]
        refine ⟨nu_in (by omega) (by omega), nu_in (by omega) (by omega), ?_⟩
        rintro _ rfl
        rintro _ rfl
        rw [hR'.2.2.2.1 i hlt 1 (by omega)]
        refine ⟨nu_in (by omega) (by omega), ?_⟩
        rintro _ rfl
        rw [nu_1]
        refine ih (i + 1) _ (by omega) (hf.tr (fr.sI (fy_y 0 rfl))) (fun z hz y hy => ?_)
        by_cases q : z = Hs H i 0
        · subst q
          rw [sI_at, bt_or, bt_one (Hs H i 1) (by omega) y hy, Bool.or_eq_true, hb _ hz y hy, decide_eq_true_iff]
          constructor
          · rintro (⟨s, q1, q2⟩ | rfl)
            · exact ⟨s, by omega, q2⟩
            · exact ⟨i, by omega, e, rfl, rfl⟩
          · rintro ⟨s, q1, q2, q3, q4⟩
            by_cases z : s = i
            · subst z; exact Or.inr q4.symm
            · exact Or.inl ⟨s, by omega, q2, q3, q4⟩
        · rw [sI_ne (by omega), hb z hz y hy]
          constructor
          · rintro ⟨s, q1, q2⟩
            exact ⟨s, by omega, q2⟩
          · rintro ⟨s, q1, q2, q3, q4⟩
            have : ¬ s = i := fun w => q (by rw [← q3, w])
            exact ⟨s, by omega, q2, q3, q4⟩
  refine key (Hh H 1) 0 v1 (by omega) f1 (fun z hz y hy => ?_)
  rw [z1 z hz, bt_0]
  exact ⟨fun q => absurd q Bool.false_ne_true, fun ⟨s, q, _⟩ => absurd q (Nat.not_lt_zero s)⟩
theorem k_whoReach {r hm : Nat} {B : Int32} (hW : hs_W H) (hb : cb_R v r H) (hm8 : hm < 8) (hQ : ∀ w : Int32, (∀ z, z < 32 → (bt w z = true ↔ ∃ n, rg_n H hm (fun z => bt B z = true) n z)) → Q (Sum.inl (some (zI w))) v) : gd_C g mX8_whoReach d 0 0 [zR 8 r, zI (nI hm), zI B] v Q := by
  have h8 := hW.1
  have edge8 : ∀ z y, rg_e H z y → z < 8 ∧ y < 8 := by
    rintro z y ⟨s, a1, a2, rfl, rfl⟩
    have := hW.2.2.2.2.2.2.2.2.1 s a1
    have := this.1
    have := (hW.2.2.2.2.2.2.2.2.1 s a1).2.1
    omega
  -- at the end
  have fin : ∀ w : Int32, bt w hm = true → (∀ z, z < 32 → bt w z = true → ∃ n, rg_n H hm (fun z => bt B z = true) n z) → (∀ z, z < 8 → ¬ bt B z = true → (∃ y, y < 32 ∧ rg_e H z y ∧ bt w y = true) → bt w z = true) → Q (Sum.inl (some (zI w))) v := by
    intro w h1 h2 h3
    refine hQ w (fun z hz => ⟨h2 z hz, ?_⟩)
    rintro ⟨n, hn⟩
    have key : ∀ n z, rg_n H hm (fun z => bt B z = true) n z → bt w z = true := by
      intro n
      induction n with
      | zero => intro z e; rw [show z = hm from e]; exact h1
      | succ n ih =>
        intro z q
        rcases q with q | ⟨q1, y, q2, q3⟩
        · exact ih z q
        · have e8 := edge8 z y q2
          exact h3 z e8.1 q1 ⟨y, by omega, q2, ih y q3⟩
    exact key n z hn
  refine c_X8_whoReach (Nat.zero_le _) ?_
  have outer : ∀ k i (w w0 : Int32), i + k = 8 → bt w hm = true → (∀ z, z < 32 → bt w z = true → z < 8 ∧ ∃ n, rg_n H hm (fun z => bt B z = true) n z) → (∀ z, bt w0 z = true → bt w z = true) → (∀ z, z < 8 → ¬ bt B z = true → (∃ y, y < 32 ∧ rg_e H z y ∧ bt w0 y = true) → bt w z = true) → i ≤ bt_c w0 → gd_G g mX8_whoReach d 0 0 10 [(0, zR 8 r), (2, zI B), (3, zI w), (4, zI w0), (5, zI (nI i))] [] v Q := by
    intro k
    induction k with
    | zero =>
      intro i w w0 hi h1 h2 h3 h4 h5
      have e : i = 8 := by omega
      subst e
      refine w_X8_whoReach_10 (Nat.zero_le _) (pk_le 8 8 (fun _ => fin w h1 (fun z hz q => (h2 z hz q).2) (fun z hz _ _ => ?_)) (fun q => absurd q (by omega)))
      exact h3 z (bt_c1.mp (pc_full 8 h5 z hz))
    | succ k ih =>
      intro i w w0 hi h1 h2 h3 h4 h5
      refine w_X8_whoReach_10 (Nat.zero_le _) (pk_le 8 i (fun q => absurd q (by omega)) (fun _ => ⟨fun e => ?_, fun e => ?_⟩))
      · subst e
        exact fin w h1 (fun z hz q => (h2 z hz q).2) h4
      · have more : bt_c w0 < bt_c w := by
          have : ∃ z, z < 8 ∧ bt w z = true ∧ ¬ bt w0 z = true := by
            apply Classical.byContradiction
            intro q
            apply e
            apply bt_ext
            intro z hz
            cases ew : bt w z with
            | false =>
              cases ew0 : bt w0 z with
              | false => rfl
              | true => rw [h3 z ew0] at ew; cases ew
            | true =>
              cases ew0 : bt w0 z with
              | true => rfl
              | false => exact absurd ⟨z, (h2 z hz ew).1, ew, by rw [ew0]; exact Bool.false_ne_true⟩ q
          obtain ⟨z, z1, z2, z3⟩ := this
          exact pc_lt (fun x hx => bt_c1.mpr (h3 x (bt_c1.mp hx))) (fun q => z3 (bt_c1.mp q)) (bt_c1.mpr z2) 8 z1
        have inner : ∀ k j (u : Int32), j + k = 8 → bt u hm = true → (∀ z, z < 32 → bt u z = true → z < 8 ∧ ∃ n, rg_n H hm (fun z => bt B z = true) n z) → (∀ z, bt w z = true → bt u z = true) → (∀ z, z < j → ¬ bt B z = true → (∃ y, y < 32 ∧ rg_e H z y ∧ bt w y = true) → bt u z = true) → gd_G g mX8_whoReach d 0 0 29 [(0, zR 8 r), (2, zI B), (3, zI u), (4, zI w), (5, zI (nI i)), (6, zI (nI j))] [] v Q := by
          intro k
          induction k with
          | zero =>
            intro j u hj g1 g2 g3 g4
            have e : j = 8 := by omega
            subst e
            refine w_X8_whoReach_29 (Nat.zero_le _) (pk_le 8 8 (fun _ => ?_) (fun q => absurd q (by omega)))
            rw [nu_1]
            exact ih (i + 1) u w (by omega) g1 g2 g3 g4 (by omega)
          | succ k ihk =>
            intro j u hj g1 g2 g3 g4
            have tst := bt_test (w := B) (z := j) (by omega)
            refine w_X8_whoReach_29 (Nat.zero_le _) (pk_le 8 j (fun q => absurd q (by omega)) (fun _ => ⟨fun q => ?_, fun q => ⟨nu_in (by omega) (by omega), fun q2 => ?_, fun q2 => ?_⟩⟩))
            · rw [nu_1]
              refine ihk (j + 1) u (by omega) g1 g2 g3 (fun z hz hB hy => ?_)
              by_cases e : z = j
              · subst e
                exact absurd (by cases e2 : bt B z with
                  | true => rfl
                  | false => exact absurd (tst.mpr e2) q) hB
              · exact g4 z (by omega) hB hy
            · rw [nI_clamp (by omega)] at q2
              rw [nu_1]
              refine ihk (j + 1) u (by omega) g1 g2 g3 (fun z hz hB hy => ?_)
              by_cases e : z = j
              · subst e
                exfalso
                obtain ⟨y, y1, y2, y3⟩ := hy
                have : bt (v.1 37 r z &&& u) y = true := by rw [bt_and, (hb z (by omega) y y1).mpr y2, g3 y y3]; rfl
                rw [q2, bt_0] at this
                cases this
              · exact g4 z (by omega) hB hy
            · rw [nI_clamp (by omega)] at q2
              obtain ⟨y, y1, y2⟩ := bt_nz.mp q2
              rw [bt_and, Bool.and_eq_true] at y2
              have ye := (hb j (by omega) y y1).mp y2.1
              obtain ⟨-, n, hn⟩ := g2 y y1 y2.2
              rw [nu_1]
              refine ihk (j + 1) _ (by omega) (by rw [bt_or, g1]; rfl) (fun z hz hq => ?_) (fun z hz => by rw [bt_or, g3 z hz]; rfl) (fun z hz hB hy => ?_)
              · rw [bt_or, Bool.or_eq_true] at hq
                rcases hq with hq | hq
                · exact g2 z hz hq
                · rw [bt_one j (by omega) z hz, decide_eq_true_iff] at hq
                  subst hq
                  have := tst.mp q
                  exact ⟨by omega, n + 1, Or.inr ⟨show ¬ bt B z = true by rw [this]; exact Bool.false_ne_true, y, ye, hn⟩⟩
              · rw [bt_or]
                by_cases e : z = j
                · subst e
                  rw [bt_one z (by omega) z (by omega), decide_eq_true rfl, Bool.or_true]
                · rw [g4 z (by omega) hB hy]; rfl
        exact inner 8 0 w (by omega) h1 h2 (fun z hz => hz) (fun z hz => absurd hz (Nat.not_lt_zero z))
  refine outer 8 0 (1 <<< (nI hm &&& 31)) 0 (by omega) ?_ ?_ ?_ ?_ (Nat.zero_le _)
  · rw [bt_one hm (by omega) hm (by omega), decide_eq_true rfl]
  · intro z hz q
    rw [bt_one hm (by omega) z hz, decide_eq_true_iff] at q
    subst q
    exact ⟨hm8, 0, rfl⟩
  · intro z q; rw [bt_0] at q; cases q
  · rintro z hz hB ⟨y, y1, y2, y3⟩
    rw [bt_0] at y3; cases y3
theorem k_nextOf {o x : Nat} {w : Int32} {O : List Nat} (hd : 3 ≤ d) (hR : cr_R v h H) (hW : hs_W H) (hO : cr_O v o O) (hOk : ord_ok O (Hh H 1)) (hx : x < 8) (h1 : ∀ A s B, O = A ++ s :: B → (Hs H s 0 = x ∧ bt w (Hs H s 1) = true ∧ rg_fit H s = true) → (∀ y ∈ A, ¬ (Hs H y 0 = x ∧ bt w (Hs H y 1) = true ∧ rg_fit H y = true)) → Q (Sum.inl (some (zI (nI s)))) v) (h0 : (∀ y ∈ O, ¬ (Hs H y 0 = x ∧ bt w (Hs H y 1) = true ∧ rg_fit H y = true)) → Q (Sum.inl (some (zI (-1)))) v) : gd_C g mX8_nextOf d 0 0 [zR 2 h, zR 5 o, zI (nI x), zI w] v Q := by
  have h24 := hW.2.1
  have h8 := hW.1
  have hl := hOk.1
  refine c_X8_nextOf (Nat.zero_le _) ?_
  have key : ∀ (l A : List Nat), O = A ++ l → (∀ y ∈ A, ¬ (Hs H y 0 = x ∧ bt w (Hs H y 1) = true ∧ rg_fit H y = true)) → gd_G g mX8_nextOf d 0 0 3 [(0, zR 2 h), (1, zR 5 o), (2, zI (nI x)), (3, zI w), (4, zI (nI A.length))] [] v Q := by
    intro l
    induction l with
    | nil =>
      intro A hA hn
      have e : A = O := by rw [hA, List.append_nil]
      exact w_X8_nextOf_3 hd (pk_le O.length A.length (fun _ => h0 (by rw [← e]; exact hn)) (fun q => absurd q (by rw [e]; omega)) hO.1 rfl (by omega) (by rw [e]; omega))
    | cons s l ih =>
      intro A hA hn
      have hlen : A.length < O.length := by rw [hA, List.length_append]; simp
      have hs : s < Hh H 1 := (hOk.2.1 s).mp (by rw [hA]; exact List.mem_append.mpr (Or.inr List.mem_cons_self))
      have eO : v.1 21 o A.length = nI s := by
        rw [hO.2 A.length hlen, hA, getD_app_r (Nat.le_refl _), Nat.sub_self]; rfl
      obtain ⟨s1, s2, -, -, -, -, -⟩ := hW.2.2.2.2.2.2.2.2.1 s hs
      have no : ¬ (Hs H s 0 = x ∧ bt w (Hs H s 1) = true ∧ rg_fit H s = true) → gd_G g mX8_nextOf d 0 0 3 [(0, zR 2 h), (1, zR 5 o), (2, zI (nI x)), (3, zI w), (4, zI (nI A.length + 1))] [] v Q := by
        intro hno
        have := ih (A ++ [s]) (by rw [List.append_assoc]; exact hA) (fun y hy => by
          rcases List.mem_append.mp hy with q | q
          · exact hn y q
          · rw [List.mem_singleton.mp q]; exact hno)
        rw [List.length_append] at this
        rw [nu_1]; exact this
      refine w_X8_nextOf_3 hd (pk_le O.length A.length (fun q => absurd q (by omega)) (fun _ => ⟨nu_in (by omega) (by omega), ?_⟩) hO.1 rfl (by omega) (by omega))
      rw [nI_clamp (by omega), eO, nI_clamp (by omega)]
      refine ⟨nu_in (by omega) (by omega), ?_⟩
      rintro _ rfl
      rw [hR.2.2.2.1 s hs 0 (by omega), hR.2.2.2.1 s hs 1 (by omega), nI_eq (by omega) (by omega)]
      have tst := bt_test (w := w) (z := Hs H s 1) (by omega)
      refine ⟨fun q => no (fun z => q z.1), fun q => ⟨fun q2 => no (fun z => ?_), fun q2 => ⟨nu_in (by omega) (by omega), k_isFit hR hW hs ⟨fun hc => no (fun z => ?_), fun hc => ⟨nu_in (by omega) (by omega), ?_⟩⟩⟩⟩⟩
      · rw [tst.mp q2] at z; exact absurd z.2.1 Bool.false_ne_true
      · rw [b2_0 hc] at z; exact absurd z.2.2 Bool.false_ne_true
      · have eb : bt w (Hs H s 1) = true := by
          cases e : bt w (Hs H s 1) with
          | true => rfl
          | false => exact absurd (tst.mpr e) q2
        rw [eO]
        exact h1 A s l hA ⟨q, eb, b2_1 hc⟩ hn
  exact key O [] rfl (fun y hy => by cases hy)
/-- the members of a ring object -/
def cm_R (v : gd_D) (r : Nat) (L : List Nat) : Prop := v.1 8 r 1 = nI L.length ∧ ∀ j, j < L.length → v.1 36 r j = nI (L.getD j 0)
theorem k_follow {r o s0 : Nat} {O : List Nat} (hd : 4 ≤ d) (hR : cr_R v h H) (hW : hs_W H) (hO : cr_O v o O) (hOk : ord_ok O (Hh H 1)) (hb : cb_R v r H) (hs0 : s0 < Hh H 1) (hfit : rg_fit H s0 = true) (hG : rg_G H O [s0]) (h1 : ∀ v' R, fr (fy [(8, r), (36, r)]) v v' → rg_F H O R → cm_R v' r R.reverse → Q (Sum.inl (some (zI 1))) v') (h0 : ∀ v', fr (fy [(8, r), (36, r)]) v v' → ¬ rg_X H [s0] → Q (Sum.inl (some (zI 0))) v') : gd_C g mX8_follow d 0 0 [zR 8 r, zR 2 h, zR 5 o, zI (nI s0)] v Q := by
  have h24 := hW.2.1
  have h8 := hW.1
  obtain ⟨s1, s2, s3, -, -, -, -⟩ := hW.2.2.2.2.2.2.2.2.1 s0 hs0
  refine c_X8_follow (Nat.zero_le _) ?_
  unfold wp_X8_follow
  rw [nI_clamp (by omega), show ((0 : Int32)).toNatClampNeg = 0 from by decide]
  refine ⟨nu_in (by omega) (by omega), ?_⟩
  rintro _ rfl
  refine ⟨nu_in (by omega) (by omega), ?_⟩
  rintro _ rfl
  refine ⟨nu_in (n := 0) (by decide) (by decide), ?_⟩
  rintro _ rfl
  rintro _ rfl
  rw [hR.2.2.2.1 s0 hs0 0 (by omega), hR.2.2.2.1 s0 hs0 1 (by omega)]
  have key : ∀ k i (s : Nat) (T : List Nat) (w : Int32) (u : gd_D), i + k = 8 → (s :: T).length = i → rg_p H (s :: T) → rg_G H O (s :: T) → ((s :: T) = [s0] ∨ (rg_X H (s :: T) ∧ rg_X H [s0])) → (∀ z, bt w z = true ↔ ∃ x ∈ s :: T, Hs H x 0 = z) → fr (fy [(8, r), (36, r)]) v u → cm_R u r (s :: T).reverse → gd_G g mX8_follow d 0 0 43 [(0, zR 8 r), (1, zR 2 h), (2, zR 5 o), (4, zI (nI (rg_h H (s :: T)))), (5, zI (nI (Hs H s 1))), (6, zI w), (7, zI (nI i))] [] u Q := by
    intro k
    induction k with
    | zero =>
      intro i s T w u hi hlen hp hGR hX hw hfr hm
      have e : i = 8 := by omega
      subst e
      have hsN := (hp.mem s List.mem_cons_self).1
      obtain ⟨b1, b2', -, -, -, -, -⟩ := hW.2.2.2.2.2.2.2.2.1 s hsN
      obtain ⟨xh, xh1, xh2⟩ := rg_h_mem (H := H) (R := s :: T) (fun q => by cases q)
      have hh8 : rg_h H (s :: T) < 8 := by rw [← xh2]; have := (hW.2.2.2.2.2.2.2.2.1 xh (hp.mem xh xh1).1).1; omega
      refine w_X8_follow_43 hd (pk_le 8 8 (fun _ => ?_) (fun q => absurd q (by omega)))
      show (¬ nI (Hs H s 1) = nI (rg_h H (s :: T)) → _) ∧ (nI (Hs H s 1) = nI (rg_h H (s :: T)) → _)
      rw [nI_eq (by omega) (by omega)]
      refine ⟨fun hne => ?_, fun he => h1 u (s :: T) hfr ⟨hp, ⟨s, T, rfl, he⟩, hGR⟩ hm⟩
      exfalso
      have hX2 : rg_X H (s :: T) := by
        rcases hX with q | q
        · rw [q] at hlen; cases hlen
        · exact q.1
      obtain ⟨t, ht⟩ := hX2.nx (fun ⟨a, b, e1, e2⟩ => hne (by cases e1; exact e2))
      have := ht.p.len hW.V
      rw [List.length_cons, hlen] at this
      omega
    | succ k ih =>
      intro i s T w u hi hlen hp hGR hX hw hfr hm
      have hsN := (hp.mem s List.mem_cons_self).1
      obtain ⟨b1, b2', b3, -, -, -, -⟩ := hW.2.2.2.2.2.2.2.2.1 s hsN
      obtain ⟨xh, xh1, xh2⟩ := rg_h_mem (H := H) (R := s :: T) (fun q => by cases q)
      have hh8 : rg_h H (s :: T) < 8 := by rw [← xh2]; have := (hW.2.2.2.2.2.2.2.2.1 xh (hp.mem xh xh1).1).1; omega
      have hR' : cr_R u h H := hR.far hW hfr (fun _ _ => fy_n rfl) (fun _ _ => fy_n rfl) (fun _ _ => fy_n rfl) (fun _ _ => fy_n rfl)
      have hO' : cr_O u o O := ⟨by rw [hfr.I (fun _ => fy_n rfl)]; exact hO.1, fun j hj => by rw [hfr.I (fun _ => fy_n rfl)]; exact hO.2 j hj⟩
      have hb' : cb_R u r H := fun z hz y hy => by rw [hfr.I (fun _ => fy_n rfl)]; exact hb z hz y hy
      refine w_X8_follow_43 hd (pk_le 8 i (fun q => absurd q (by omega)) (fun _ => ?_))
      rw [nI_eq (by omega) (by omega)]
      refine ⟨fun he => ?_, fun hne => ?_⟩
      · show (¬ nI (Hs H s 1) = nI (rg_h H (s :: T)) → _) ∧ (nI (Hs H s 1) = nI (rg_h H (s :: T)) → _)
        exact ⟨fun q => absurd (by rw [he]) q, fun _ => h1 u (s :: T) hfr ⟨hp, ⟨s, T, rfl, he⟩, hGR⟩ hm⟩
      · have nc : ¬ rg_c H (s :: T) := fun ⟨a, b, e1, e2⟩ => hne (by cases e1; exact e2)
        -- who buys last sells nothing of the row
        have fresh : ∀ x ∈ s :: T, ¬ Hs H x 0 = Hs H s 1 := by
          rcases hX with q | q
          · intro x hx e
            rw [q] at hx
            have e1 := List.mem_singleton.mp hx
            cases q
            rw [e1] at e
            exact s3 e
          · obtain ⟨t, ht⟩ := q.1.nx nc
            have e1 := ht.p.2.2.1 s rfl
            intro x hx e
            exact ht.p.2.1 x hx (e.trans e1)
        refine k_whoReach hW hb' hh8 (fun m hm2 => ?_)
        rw [gd_rI_at]
        have ew : ∀ z, bt (w ||| (1 <<< (nI (Hs H s 1) &&& 31))) z = true ↔ (∃ x ∈ s :: T, Hs H x 0 = z) ∨ z = Hs H s 1 := by
          intro z
          by_cases hz : z < 32
          · rw [bt_or, Bool.or_eq_true, hw z, bt_one (Hs H s 1) (by omega) z hz, decide_eq_true_iff]
          · rw [bt_big (by omega)]
            refine ⟨fun q => absurd q Bool.false_ne_true, fun q => ?_⟩
            rcases q with ⟨x, x1, x2⟩ | q
            · have := (hW.2.2.2.2.2.2.2.2.1 x (hp.mem x x1).1).1; omega
            · omega
        have same : ∀ t, t < Hh H 1 → ((Hs H t 0 = Hs H s 1 ∧ bt m (Hs H t 1) = true ∧ rg_fit H t = true) ↔ rg_X H (t :: s :: T)) := by
          intro t ht
          have t2 := (hW.2.2.2.2.2.2.2.2.1 t ht).2.1
          constructor
          · rintro ⟨t3, t4, t5⟩
            obtain ⟨n, hn⟩ := (hm2 _ (by omega)).mp t4
            have hp2 : rg_p H (t :: s :: T) := ⟨⟨ht, t5⟩, fun x hx e => fresh x hx (e.trans t3), fun q hq => by cases hq; exact t3.symm, hp⟩
            refine rg_n_X n t (s :: T) hp2 ?_
            have eB : (fun z => ∃ x ∈ t :: s :: T, Hs H x 0 = z) = (fun z => bt (w ||| (1 <<< (nI (Hs H s 1) &&& 31))) z = true) := by
              funext z
              apply propext
              rw [ew z]
              constructor
              · rintro ⟨x, hx, e⟩
                rcases List.mem_cons.mp hx with q | q
                · rw [q, t3] at e; exact Or.inr e.symm
                · exact Or.inl ⟨x, q, e⟩
              · rintro (⟨x, hx, e⟩ | e)
                · exact ⟨x, List.mem_cons_of_mem t hx, e⟩
                · exact ⟨t, List.mem_cons_self, t3.trans e.symm⟩
            rw [eB, rg_h_cons (fun q => by cases q)]
            exact hn
          · intro hXt
            have hp2 := hXt.p
            have t3 : Hs H s 1 = Hs H t 0 := hp2.2.2.1 s rfl
            refine ⟨t3.symm, (hm2 _ (by omega)).mpr ?_, hp2.1.2⟩
            obtain ⟨n, hn⟩ := rg_X_n hXt t (s :: T) rfl (fun z => bt (w ||| (1 <<< (nI (Hs H s 1) &&& 31))) z = true) (fun z hz => by
              rcases (ew z).mp hz with ⟨x, hx, e⟩ | e
              · exact ⟨x, List.mem_cons_of_mem t hx, e⟩
              · exact ⟨t, List.mem_cons_self, t3.symm.trans e.symm⟩)
            rw [rg_h_cons (fun q => by cases q)] at hn
            exact ⟨n, hn⟩
        refine k_nextOf (Nat.le_refl 3) hR' hW hO' hOk (by omega) (fun A t B eO hP hA => ?_) (fun hno => ?_)
        · have ht : t < Hh H 1 := (hOk.2.1 t).mp (by rw [eO]; exact List.mem_append.mpr (Or.inr List.mem_cons_self))
          have hXt := (same t ht).mp hP
          rw [gd_rI_at]
          refine ⟨fun _ => ⟨nu_in (by omega) (by omega), ?_⟩, fun e => absurd e (nu_m1 (by omega))⟩
          rintro _ rfl
          rintro _ rfl
          rw [nI_clamp (by omega), nI_clamp (by omega), nu_1]
          refine ⟨nu_in (by omega) (by omega), ?_⟩
          rintro _ rfl
          rw [sI_ne (by omega), sI_ne (by omega), hR'.2.2.2.1 t ht 1 (by omega)]
          have t3 : Hs H s 1 = Hs H t 0 := hXt.p.2.2.1 s rfl
          have hX0 : rg_X H [s0] := by
            rcases hX with q | q
            · rw [← q]; exact hXt.step
            · exact q.2
          have := ih (i + 1) t (s :: T) (w ||| (1 <<< (nI (Hs H s 1) &&& 31))) (gd_sI (gd_sI u 36 r i (nI t)) 8 r 1 (nI (i + 1))) (by omega) (by rw [List.length_cons, hlen]) hXt.p ⟨⟨A, B, eO, fun y hy hXy => hA y hy ((same y ((hOk.2.1 y).mp (by rw [eO]; exact List.mem_append.mpr (Or.inl hy)))).mpr hXy)⟩, hGR⟩ (Or.inr ⟨hXt, hX0⟩) (fun z => ?_) ((hfr.tr (fr.sI (fy_y 1 rfl))).tr (fr.sI (fy_y 0 rfl))) ?_
          · rw [rg_h_cons (fun q => by cases q)] at this
            exact this
          · rw [ew z]
            constructor
            · rintro (⟨x, hx, e⟩ | e)
              · exact ⟨x, List.mem_cons_of_mem t hx, e⟩
              · exact ⟨t, List.mem_cons_self, t3.symm.trans e.symm⟩
            · rintro ⟨x, hx, e⟩
              rcases List.mem_cons.mp hx with q | q
              · rw [q, ← t3] at e; exact Or.inr e.symm
              · exact Or.inl ⟨x, q, e⟩
          · refine ⟨?_, fun j hj => ?_⟩
            · rw [sI_at, List.length_reverse, List.length_cons, hlen]
            · rw [List.length_reverse, List.length_cons, hlen] at hj
              rw [sI_ne (by omega), List.reverse_cons]
              by_cases q : j = i
              · subst q
                rw [sI_at, getD_app_r (by rw [List.length_reverse, hlen]; exact Nat.le_refl _), List.length_reverse, hlen, Nat.sub_self]; rfl
              · rw [sI_ne (by omega), getD_app_l (by rw [List.length_reverse, hlen]; omega)]
                exact hm.2 j (by rw [List.length_reverse, hlen]; omega)
        · rw [gd_rI_at]
          refine ⟨fun e => absurd rfl e, fun _ => h0 u hfr (fun hX0 => ?_)⟩
          have hXR : rg_X H (s :: T) := by
            rcases hX with q | q
            · rw [q]; exact hX0
            · exact q.1
          obtain ⟨t, ht⟩ := hXR.nx nc
          have htN := ht.p.1.1
          exact hno t ((hOk.2.1 t).mpr htN) ((same t htN).mpr ht)
  refine key 7 1 s0 [] (1 <<< (nI (Hs H s0 0) &&& 31)) _ (by omega) rfl ⟨⟨hs0, hfit⟩, fun x hx => (by cases hx), fun q hq => (by cases hq), trivial⟩ hG (Or.inl rfl) (fun z => ?_) ((fr.sI (fy_y 1 rfl)).tr (fr.sI (fy_y 0 rfl))) ⟨sI_at, fun j hj => ?_⟩
  · by_cases hz : z < 32
    · rw [bt_one (Hs H s0 0) (by omega) z hz, decide_eq_true_iff]
      exact ⟨fun e => ⟨s0, List.mem_cons_self, e.symm⟩, fun ⟨x, hx, e⟩ => by rw [List.mem_singleton.mp hx] at e; exact e.symm⟩
    · rw [bt_big (by omega)]
      refine ⟨fun q => absurd q Bool.false_ne_true, fun ⟨x, hx, e⟩ => ?_⟩
      rw [List.mem_singleton.mp hx] at e; omega
  · have : j = 0 := by
      have hj' : j < 1 := hj
      omega
    subst this
    rw [sI_ne (by omega), sI_at]; rfl
end CR
