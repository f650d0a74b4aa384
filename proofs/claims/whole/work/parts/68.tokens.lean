/-! TEXT, the class's side: tokens -/
theorem i32_nlt {x y : Int32} : ¬ x < y ↔ y ≤ x := by
  rw [Int32.lt_iff_toInt_lt, Int32.le_iff_toInt_le]; omega
def PS (T : Nat → Int32) (n : Nat) : Nat → Nat
  | 0 => rn isB T n 0
  | k + 1 => if PS T n k < n then nx T n (PS T n k) else PS T n k
theorem PS_sp (T : Nat → Int32) (n : Nat) : ∀ k, stt T n (PS T n k) ∧ (k ≤ PS T n k ∨ PS T n k = n)
  | 0 => ⟨stt_rn (Nat.zero_le _), Or.inl (Nat.zero_le _)⟩
  | k + 1 => by
    obtain ⟨a, b⟩ := PS_sp T n k
    show stt T n (if PS T n k < n then nx T n (PS T n k) else PS T n k) ∧ _
    by_cases h : PS T n k < n
    · have hn := nx_sp (T := T) h
      have e : PS T n (k + 1) = nx T n (PS T n k) := if_pos h
      rw [if_pos h, e]
      exact ⟨hn.2, by omega⟩
    · have e : PS T n (k + 1) = PS T n k := if_neg h
      have := a.1
      rw [if_neg h, e]
      exact ⟨a, by omega⟩
def tok_1 (v : gd_D) (T : Nat → Int32) (n q : Nat) : Prop := v.1 32 0 q = nI (tk T n (PS T n q)) ∧ v.1 33 0 q = nI (PS T n q) ∧ v.1 34 0 q = tw T n (PS T n q)
def tok_R (v : gd_D) (T : Nat → Int32) (n m : Nat) : Prop := n ≤ 500 ∧ m ≤ n ∧ PS T n m = n ∧ (∀ k, k < m → PS T n k < n) ∧ v.1 7 0 10 = nI (m + 1) ∧ ∀ q, q ≤ m → tok_1 v T n q
def fS (k i j : Nat) : Prop := (k = 32 ∨ k = 33 ∨ k = 34) ∨ (k = 7 ∧ i = 0 ∧ j = 10)
section TKC
variable {g : ab_E} {d : Nat} {v : gd_D} {Q : ab_O → gd_D → Prop} {T : Nat → Int32} {n p : Nat}
theorem k_isLetter {x : Int32} (h : Q (Sum.inl (some (zI (b2 (isL x))))) v) : gd_C g mX7_isLetter d 0 0 [zI x] v Q := by
  unfold isL at h
  refine c_X7_isLetter (Nat.zero_le _) ⟨fun h1 => ?_, fun h1 => ⟨fun h2 => ?_, fun h2 => ?_⟩⟩
  · rw [decide_eq_false (fun q => (i32_nlt.mpr q) h1)] at h; exact h
  · rw [decide_eq_true (i32_nlt.mp h1), decide_eq_false (fun q => (i32_nlt.mpr q) h2)] at h; exact h
  · rw [decide_eq_true (i32_nlt.mp h1), decide_eq_true (i32_nlt.mp h2)] at h; exact h
theorem k_isDigit {x : Int32} (h : Q (Sum.inl (some (zI (b2 (isN x))))) v) : gd_C g mX7_isDigit d 0 0 [zI x] v Q := by
  unfold isN at h
  refine c_X7_isDigit (Nat.zero_le _) ⟨fun h1 => ?_, fun h1 => ⟨fun h2 => ?_, fun h2 => ?_⟩⟩
  · rw [decide_eq_false (fun q => (i32_nlt.mpr q) h1)] at h; exact h
  · rw [decide_eq_true (i32_nlt.mp h1), decide_eq_false (fun q => (i32_nlt.mpr q) h2)] at h; exact h
  · rw [decide_eq_true (i32_nlt.mp h1), decide_eq_true (i32_nlt.mp h2)] at h; exact h
theorem k_passBlanks (hT : ∀ j, j < n → v.1 31 0 j = T j) (hn : n ≤ 500) (hp : p ≤ n) (hQ : Q (Sum.inl (some (zI (nI (rn isB T n p))))) v) : gd_C g mX7_passBlanks d 0 0 [zR 7 0, zI (nI p), zI (nI n)] v Q := by
  refine c_X7_passBlanks (Nat.zero_le _) ?_
  have key : ∀ k i, i + k = n → rn isB T n i = rn isB T n p → gd_G g mX7_passBlanks d 0 0 5 [(0, zR 7 0), (2, zI (nI n)), (3, zI (nI i)), (4, zI (nI i))] [] v Q := by
    intro k
    induction k with
    | zero =>
      intro i hi he
      rw [rn_ge (by omega)] at he
      exact w_X7_passBlanks_5 (Nat.zero_le _) (pk_le n i (fun _ => by rw [he]; exact hQ) (fun q => absurd q (by omega)) rfl rfl (by omega) (by omega))
    | succ k ih =>
      intro i hi he
      refine w_X7_passBlanks_5 (Nat.zero_le _) (pk_le n i (fun q => absurd q (by omega)) (fun _ => ⟨nu_in (by omega) (by omega), ?_⟩) rfl rfl (by omega) (by omega))
      rw [nI_clamp (by omega), hT i (by omega)]
      refine ⟨fun q => ?_, fun q => ?_⟩
      · rw [rn_no (by omega) (decide_eq_false q)] at he
        rw [he]; exact hQ
      · rw [rn_go (by omega) (decide_eq_true q)] at he
        rw [nu_1]
        exact ih (i + 1) (by omega) he
  exact key (n - p) p (by omega) rfl
theorem k_passLetters (hd : 3 ≤ d) (hT : ∀ j, j < n → v.1 31 0 j = T j) (hn : n ≤ 500) (hp : p ≤ n) (hQ : Q (Sum.inl (some (zI (nI (rn isL T n p))))) v) : gd_C g mX7_passLetters d 0 0 [zR 7 0, zI (nI p), zI (nI n)] v Q := by
  refine c_X7_passLetters (Nat.zero_le _) ?_
  have key : ∀ k i, i + k = n → rn isL T n i = rn isL T n p → gd_G g mX7_passLetters d 0 0 5 [(0, zR 7 0), (2, zI (nI n)), (3, zI (nI i)), (4, zI (nI i))] [] v Q := by
    intro k
    induction k with
    | zero =>
      intro i hi he
      rw [rn_ge (by omega)] at he
      exact w_X7_passLetters_5 hd (pk_le n i (fun _ => by rw [he]; exact hQ) (fun q => absurd q (by omega)) rfl rfl (by omega) (by omega))
    | succ k ih =>
      intro i hi he
      refine w_X7_passLetters_5 hd (pk_le n i (fun q => absurd q (by omega)) (fun _ => ⟨nu_in (by omega) (by omega), k_isLetter ?_⟩) rfl rfl (by omega) (by omega))
      rw [gd_rI_at, nI_clamp (by omega), hT i (by omega)]
      refine ⟨fun q => ?_, fun q => ?_⟩
      · rw [rn_no (by omega) (b2_0 q)] at he
        rw [he]; exact hQ
      · rw [rn_go (by omega) (b2_1 q)] at he
        rw [nu_1]
        exact ih (i + 1) (by omega) he
  exact key (n - p) p (by omega) rfl
theorem k_passDigits (hd : 3 ≤ d) (hT : ∀ j, j < n → v.1 31 0 j = T j) (hn : n ≤ 500) (hp : p ≤ n) (hQ : Q (Sum.inl (some (zI (nI (rn isN T n p))))) v) : gd_C g mX7_passDigits d 0 0 [zR 7 0, zI (nI p), zI (nI n)] v Q := by
  refine c_X7_passDigits (Nat.zero_le _) ?_
  have key : ∀ k i, i + k = n → rn isN T n i = rn isN T n p → gd_G g mX7_passDigits d 0 0 5 [(0, zR 7 0), (2, zI (nI n)), (3, zI (nI i)), (4, zI (nI i))] [] v Q := by
    intro k
    induction k with
    | zero =>
      intro i hi he
      rw [rn_ge (by omega)] at he
      exact w_X7_passDigits_5 hd (pk_le n i (fun _ => by rw [he]; exact hQ) (fun q => absurd q (by omega)) rfl rfl (by omega) (by omega))
    | succ k ih =>
      intro i hi he
      refine w_X7_passDigits_5 hd (pk_le n i (fun q => absurd q (by omega)) (fun _ => ⟨nu_in (by omega) (by omega), k_isDigit ?_⟩) rfl rfl (by omega) (by omega))
      rw [gd_rI_at, nI_clamp (by omega), hT i (by omega)]
      refine ⟨fun q => ?_, fun q => ?_⟩
      · rw [rn_no (by omega) (b2_0 q)] at he
        rw [he]; exact hQ
      · rw [rn_go (by omega) (b2_1 q)] at he
        rw [nu_1]
        exact ih (i + 1) (by omega) he
  exact key (n - p) p (by omega) rfl
theorem dgt_of {x : Int32} (h : isN x = true) : x = nI (48 + dgt x) ∧ dgt x ≤ 9 := by
  unfold isN at h
  rw [Bool.and_eq_true, decide_eq_true_iff, decide_eq_true_iff] at h
  have h1 := h.1
  have h2 := h.2
  rw [Int32.le_iff_toInt_le, show (48 : Int32).toInt = 48 from by decide] at h1
  rw [Int32.le_iff_toInt_le, show (57 : Int32).toInt = 57 from by decide] at h2
  unfold dgt
  refine ⟨?_, by omega⟩
  apply Int32.toInt_inj.mp
  rw [nI_toInt (by omega)]; omega
theorem k_numberAt (hd : 3 ≤ d) (hT : ∀ j, j < n → v.1 31 0 j = T j) (hn : n ≤ 500) (hp : p ≤ n) (hQ : Q (Sum.inl (some (zI (nI (nm T n p))))) v) : gd_C g mX7_numberAt d 0 0 [zR 7 0, zI (nI p), zI (nI (rn isN T n p))] v Q := by
  have hr := rn_le (P := isN) (T := T) hp
  refine c_X7_numberAt (Nat.zero_le _) ?_
  have key : ∀ k i a, i + k = rn isN T n p → p ≤ i → a ≤ 1000000 → nvf T k i a = nm T n p → gd_G g mX7_numberAt d 0 0 5 [(0, zR 7 0), (2, zI (nI (rn isN T n p))), (3, zI (nI a)), (4, zI (nI i))] [] v Q := by
    intro k
    induction k with
    | zero =>
      intro i a hi hpi ha he
      have he : a = nm T n p := he
      exact w_X7_numberAt_5 hd (pk_le (rn isN T n p) i (fun _ => by rw [he]; exact hQ) (fun q => absurd q (by omega)) rfl rfl (by omega) (by omega))
    | succ k ih =>
      intro i a hi hpi ha he
      obtain ⟨e1, e2⟩ := dgt_of (rn_all (P := isN) (T := T) (n := n) (p := p) (i := i) hp hpi (by omega))
      refine w_X7_numberAt_5 hd (pk_le (rn isN T n p) i (fun q => absurd q (by omega)) (fun _ => ⟨nu_in (by omega) (by omega), ?_⟩) rfl rfl (by omega) (by omega))
      rintro _ rfl
      rw [nI_clamp (by omega), hT i (by omega), e1, nu_I 10, pk_mul, nI_add, nu_I 48, pk_sub (by omega), nu_I 1000000]
      refine c_minI ?_
      rw [nu_min (by omega) (by omega), gd_rI_at, nu_1, show a * 10 + (48 + dgt (T i)) - 48 = a * 10 + dgt (T i) by omega]
      exact ih (i + 1) _ (by omega) (by omega) (Nat.min_le_right _ _) he
  exact key _ p 0 (by omega) (Nat.le_refl _) (by omega) rfl
theorem k_spells {i e : Nat} (hi : i < 14) (hd : 7 ≤ d) (hT : ∀ j, j < n → v.1 31 0 j = T j) (hn : n ≤ 500) (hp : p ≤ e) (he : e ≤ n) (hQ : Q (Sum.inl (some (zI (b2 (sp T p e i))))) v) : gd_C g mX7_spells d 0 0 [zR 7 0, zR 100 i, zI (nI p), zI (nI e)] v Q := by
  have hl : tx_n i < 100 := (tx_all i hi).1
  refine c_X7_spells_d7 hd ?_
  unfold wp_X7_spells
  rw [pk_sub hp, show (Int32.ofNat (ab_tn.getD i 0)) = nI (tx_n i) from rfl, nI_eq (by omega) (by omega)]
  unfold sp at hQ
  refine ⟨fun q => ?_, fun q => ?_⟩
  · rw [decide_eq_true (show e = p + tx_n i by omega), Bool.true_and] at hQ
    have key : ∀ k j, j + k = tx_n i → (∀ z, z < j → T (p + z) = tx_c i z) → gd_G g mX7_spells d 0 0 15 [(0, zR 7 0), (1, zR 100 i), (2, zI (nI p)), (4, zI (nI j))] [] v Q := by
      intro k
      induction k with
      | zero =>
        intro j hj ha
        rw [decide_eq_true (fun z hz => ha z (by omega))] at hQ
        exact w_X7_spells_15_d7 hd (pk_le (tx_n i) j (fun _ => hQ) (fun q => absurd q (by omega)) rfl rfl (by omega) (by omega))
      | succ k ih =>
        intro j hj ha
        refine w_X7_spells_15_d7 hd (pk_le (tx_n i) j (fun q => absurd q (by omega)) (fun _ => ?_) rfl rfl (by omega) (by omega))
        rw [nI_add, nI_clamp (by omega), nI_clamp (by omega), hT (p + j) (by omega)]
        refine ⟨nu_in (by omega) (by omega), nu_in (N := tx_n i) (by omega) (by omega), fun z => ?_, fun z => ?_⟩
        · rw [nu_1]
          refine ih (j + 1) (by omega) (fun y hy => ?_)
          by_cases e2 : y = j
          · subst e2; exact z
          · exact ha y (by omega)
        · rw [decide_eq_false (fun y => z (y j (by omega)))] at hQ; exact hQ
    exact key (tx_n i) 0 (by omega) (fun z hz => absurd hz (by omega))
  · rw [decide_eq_false (fun z => q (by omega)), Bool.false_and] at hQ; exact hQ
theorem k_operandAt (hd : 8 ≤ d) (hT : ∀ j, j < n → v.1 31 0 j = T j) (hn : n ≤ 500) (hp : p ≤ n) (hw : 7 ≤ wi T n p) (hQ : Q (Sum.inl (some (zI (wcode (wi T n p))))) v) : gd_C g mX7_operandAt d 0 0 [zR 7 0, zI (nI p), zI (nI (rn isL T n p))] v Q := by
  have hr := rn_le (P := isL) (T := T) hp
  have hle := wi_le T n p
  refine c_X7_operandAt hd ?_
  refine k_spells (i := 7) (by omega) (Nat.le_refl 7) hT hn hr.1 hr.2 ?_
  rw [gd_rI_at]
  refine ⟨fun z7 => ?_, fun z => ?_⟩
  rotate_left
  · have e := (wi_iff (T := T) (n := n) (p := p) (i := 7) (by omega)).mpr (b2_1 z)
    rw [e] at hQ; exact hQ
  have n7 : ¬ wi T n p = 7 := fun q => by
    have := (wi_iff (T := T) (n := n) (p := p) (i := 7) (by omega)).mp q
    rw [this] at z7; exact absurd z7 (by decide)
  refine k_spells (i := 8) (by omega) (Nat.le_refl 7) hT hn hr.1 hr.2 ?_
  rw [gd_rI_at]
  refine ⟨fun z8 => ?_, fun z => ?_⟩
  rotate_left
  · have e := (wi_iff (T := T) (n := n) (p := p) (i := 8) (by omega)).mpr (b2_1 z)
    rw [e] at hQ; exact hQ
  have n8 : ¬ wi T n p = 8 := fun q => by
    have := (wi_iff (T := T) (n := n) (p := p) (i := 8) (by omega)).mp q
    rw [this] at z8; exact absurd z8 (by decide)
  refine k_spells (i := 9) (by omega) (Nat.le_refl 7) hT hn hr.1 hr.2 ?_
  rw [gd_rI_at]
  refine ⟨fun z9 => ?_, fun z => ?_⟩
  rotate_left
  · have e := (wi_iff (T := T) (n := n) (p := p) (i := 9) (by omega)).mpr (b2_1 z)
    rw [e] at hQ; exact hQ
  have n9 : ¬ wi T n p = 9 := fun q => by
    have := (wi_iff (T := T) (n := n) (p := p) (i := 9) (by omega)).mp q
    rw [this] at z9; exact absurd z9 (by decide)
  refine k_spells (i := 10) (by omega) (Nat.le_refl 7) hT hn hr.1 hr.2 ?_
  rw [gd_rI_at]
  refine ⟨fun z10 => ?_, fun z => ?_⟩
  rotate_left
  · have e := (wi_iff (T := T) (n := n) (p := p) (i := 10) (by omega)).mpr (b2_1 z)
    rw [e] at hQ; exact hQ
  have n10 : ¬ wi T n p = 10 := fun q => by
    have := (wi_iff (T := T) (n := n) (p := p) (i := 10) (by omega)).mp q
    rw [this] at z10; exact absurd z10 (by decide)
  refine k_spells (i := 11) (by omega) (Nat.le_refl 7) hT hn hr.1 hr.2 ?_
  rw [gd_rI_at]
  refine ⟨fun z11 => ?_, fun z => ?_⟩
  rotate_left
  · have e := (wi_iff (T := T) (n := n) (p := p) (i := 11) (by omega)).mpr (b2_1 z)
    rw [e] at hQ; exact hQ
  have n11 : ¬ wi T n p = 11 := fun q => by
    have := (wi_iff (T := T) (n := n) (p := p) (i := 11) (by omega)).mp q
    rw [this] at z11; exact absurd z11 (by decide)
  refine k_spells (i := 12) (by omega) (Nat.le_refl 7) hT hn hr.1 hr.2 ?_
  rw [gd_rI_at]
  refine ⟨fun z12 => ?_, fun z => ?_⟩
  rotate_left
  · have e := (wi_iff (T := T) (n := n) (p := p) (i := 12) (by omega)).mpr (b2_1 z)
    rw [e] at hQ; exact hQ
  have n12 : ¬ wi T n p = 12 := fun q => by
    have := (wi_iff (T := T) (n := n) (p := p) (i := 12) (by omega)).mp q
    rw [this] at z12; exact absurd z12 (by decide)
  refine k_spells (i := 13) (by omega) (Nat.le_refl 7) hT hn hr.1 hr.2 ?_
  rw [gd_rI_at]
  refine ⟨fun z13 => ?_, fun z => ?_⟩
  rotate_left
  · have e := (wi_iff (T := T) (n := n) (p := p) (i := 13) (by omega)).mpr (b2_1 z)
    rw [e] at hQ; exact hQ
  have n13 : ¬ wi T n p = 13 := fun q => by
    have := (wi_iff (T := T) (n := n) (p := p) (i := 13) (by omega)).mp q
    rw [this] at z13; exact absurd z13 (by decide)
  have e : wi T n p = 14 := by omega
  rw [e] at hQ; exact hQ
theorem k_wordAt (hd : 9 ≤ d) (hT : ∀ j, j < n → v.1 31 0 j = T j) (hn : n ≤ 500) (hp : p ≤ n) (hQ : Q (Sum.inl (some (zI (wcode (wi T n p))))) v) : gd_C g mX7_wordAt d 0 0 [zR 7 0, zI (nI p), zI (nI (rn isL T n p))] v Q := by
  have hr := rn_le (P := isL) (T := T) hp
  refine c_X7_wordAt hd ?_
  refine k_spells (i := 0) (by omega) (Nat.le_refl 7) hT hn hr.1 hr.2 ?_
  rw [gd_rI_at]
  refine ⟨fun z0 => ?_, fun z => ?_⟩
  rotate_left
  · have e := (wi_iff (T := T) (n := n) (p := p) (i := 0) (by omega)).mpr (b2_1 z)
    rw [e] at hQ; exact hQ
  have n0 : ¬ wi T n p = 0 := fun q => by
    have := (wi_iff (T := T) (n := n) (p := p) (i := 0) (by omega)).mp q
    rw [this] at z0; exact absurd z0 (by decide)
  refine k_spells (i := 1) (by omega) (Nat.le_refl 7) hT hn hr.1 hr.2 ?_
  rw [gd_rI_at]
  refine ⟨fun z1 => ?_, fun z => ?_⟩
  rotate_left
  · have e := (wi_iff (T := T) (n := n) (p := p) (i := 1) (by omega)).mpr (b2_1 z)
    rw [e] at hQ; exact hQ
  have n1 : ¬ wi T n p = 1 := fun q => by
    have := (wi_iff (T := T) (n := n) (p := p) (i := 1) (by omega)).mp q
    rw [this] at z1; exact absurd z1 (by decide)
  refine k_spells (i := 2) (by omega) (Nat.le_refl 7) hT hn hr.1 hr.2 ?_
  rw [gd_rI_at]
  refine ⟨fun z2 => ?_, fun z => ?_⟩
  rotate_left
  · have e := (wi_iff (T := T) (n := n) (p := p) (i := 2) (by omega)).mpr (b2_1 z)
    rw [e] at hQ; exact hQ
  have n2 : ¬ wi T n p = 2 := fun q => by
    have := (wi_iff (T := T) (n := n) (p := p) (i := 2) (by omega)).mp q
    rw [this] at z2; exact absurd z2 (by decide)
  refine k_spells (i := 3) (by omega) (Nat.le_refl 7) hT hn hr.1 hr.2 ?_
  rw [gd_rI_at]
  refine ⟨fun z3 => ?_, fun z => ?_⟩
  rotate_left
  · have e := (wi_iff (T := T) (n := n) (p := p) (i := 3) (by omega)).mpr (b2_1 z)
    rw [e] at hQ; exact hQ
  have n3 : ¬ wi T n p = 3 := fun q => by
    have := (wi_iff (T := T) (n := n) (p := p) (i := 3) (by omega)).mp q
    rw [this] at z3; exact absurd z3 (by decide)
  refine k_spells (i := 4) (by omega) (Nat.le_refl 7) hT hn hr.1 hr.2 ?_
  rw [gd_rI_at]
  refine ⟨fun z4 => ?_, fun z => ?_⟩
  rotate_left
  · have e := (wi_iff (T := T) (n := n) (p := p) (i := 4) (by omega)).mpr (b2_1 z)
    rw [e] at hQ; exact hQ
  have n4 : ¬ wi T n p = 4 := fun q => by
    have := (wi_iff (T := T) (n := n) (p := p) (i := 4) (by omega)).mp q
    rw [this] at z4; exact absurd z4 (by decide)
  refine k_spells (i := 5) (by omega) (Nat.le_refl 7) hT hn hr.1 hr.2 ?_
  rw [gd_rI_at]
  refine ⟨fun z5 => ?_, fun z => ?_⟩
  rotate_left
  · have e := (wi_iff (T := T) (n := n) (p := p) (i := 5) (by omega)).mpr (b2_1 z)
    rw [e] at hQ; exact hQ
  have n5 : ¬ wi T n p = 5 := fun q => by
    have := (wi_iff (T := T) (n := n) (p := p) (i := 5) (by omega)).mp q
    rw [this] at z5; exact absurd z5 (by decide)
  refine k_spells (i := 6) (by omega) (Nat.le_refl 7) hT hn hr.1 hr.2 ?_
  rw [gd_rI_at]
  refine ⟨fun z6 => ?_, fun z => ?_⟩
  rotate_left
  · have e := (wi_iff (T := T) (n := n) (p := p) (i := 6) (by omega)).mpr (b2_1 z)
    rw [e] at hQ; exact hQ
  have n6 : ¬ wi T n p = 6 := fun q => by
    have := (wi_iff (T := T) (n := n) (p := p) (i := 6) (by omega)).mp q
    rw [this] at z6; exact absurd z6 (by decide)
  exact k_operandAt (Nat.le_refl 8) hT hn hp (by omega) hQ
theorem k_addToken {q : Nat} {a c : Int32} (hq : q ≤ 500) (hk : v.1 7 0 10 = nI q) (hQ : ∀ v', fr fS v v' → v'.1 7 0 10 = nI (q + 1) → v'.1 32 0 q = a → v'.1 33 0 q = nI p → v'.1 34 0 q = c → (∀ k z, ¬ k = 7 → ¬ z = q → v'.1 k 0 z = v.1 k 0 z) → Q (Sum.inl none) v') : gd_C g mX7_addToken d 0 0 [zR 7 0, zI a, zI (nI p), zI c] v Q := by
  refine c_X7_addToken (Nat.zero_le _) (pk_le 501 q (fun z => absurd z (by omega)) (fun _ => ?_) rfl hk (by omega) (by omega))
  rw [hk, nI_clamp (by omega)]
  refine ⟨nu_in (by omega) (by omega), ?_⟩
  rintro _ rfl
  rw [sI_ne (by omega), hk, nI_clamp (by omega)]
  refine ⟨nu_in (by omega) (by omega), ?_⟩
  rintro _ rfl
  rw [sI_ne (by omega), sI_ne (by omega), hk, nI_clamp (by omega)]
  refine ⟨nu_in (by omega) (by omega), ?_⟩
  rintro _ rfl _ rfl
  rw [sI_ne (v := gd_sI (gd_sI v 32 0 q a) 33 0 q (nI p)) (by omega), sI_ne (v := gd_sI v 32 0 q a) (by omega), sI_ne (v := v) (by omega), hk, nu_1]
  refine hQ _ ((((fr.sI (Or.inl (Or.inl rfl))).tr (fr.sI (Or.inl (Or.inr (Or.inl rfl))))).tr (fr.sI (Or.inl (Or.inr (Or.inr rfl))))).tr (fr.sI (Or.inr ⟨rfl, rfl, rfl⟩))) sI_at ?_ ?_ ?_ (fun k z h1 h2 => ?_)
  · rw [sI_ne (by omega), sI_ne (by omega), sI_ne (by omega), sI_at]
  · rw [sI_ne (by omega), sI_ne (by omega), sI_at]
  · rw [sI_ne (by omega), sI_at]
  · rw [sI_ne (by omega), sI_ne (by omega), sI_ne (by omega), sI_ne (by omega)]
theorem fS_tape {v' : gd_D} (hf : fr fS v v') : v'.1 31 0 = v.1 31 0 := hf.I (fun j q => by rcases q with q | q <;> omega)
theorem k_splitTape (hd : 10 ≤ d) (hT : ∀ j, j < n → v.1 31 0 j = T j) (hn : n ≤ 500) (hQ : ∀ v' m, fr fS v v' → tok_R v' T n m → Q (Sum.inl none) v') : gd_C g mX7_splitTape d 0 0 [zR 7 0, zI (nI n)] v Q := by
  refine c_X7_splitTape (by omega) ?_
  rintro _ rfl
  have f0 : fr fS v (gd_sI v 7 0 10 0) := fr.sI (Or.inr ⟨rfl, rfl, rfl⟩)
  refine k_passBlanks (T := T) (fun j hj => by rw [fS_tape f0]; exact hT j hj) hn (Nat.zero_le _) ?_
  rw [gd_rI_at]
  have key : ∀ k i (u : gd_D), i + k = 500 → fr fS v u → u.1 7 0 10 = nI i → (∀ z, z < i → PS T n z < n) → (∀ q, q < i → tok_1 u T n q) → gd_G g mX7_splitTape d 0 0 14 [(0, zR 7 0), (1, zI (nI n)), (2, zI (nI (PS T n i))), (3, zI (nI i))] [] u Q := by
    intro k
    induction k with
    | zero =>
      intro i u hi fu hu hlt hq
      have hP := PS_sp T n i
      have hPn : PS T n i = n := by have := hP.1.1; omega
      have hmn : i ≤ n := by
        cases i with
        | zero => omega
        | succ i =>
          have h1 := hlt i (by omega)
          have h2 := (PS_sp T n i).2
          omega
      have hend : wp_X7_splitTape_129 g d (nI n) u Q := by
        refine k_addToken (q := i) (by omega) hu (fun v1 f1 a1 a2 a3 a4 a5 => ?_)
        refine hQ v1 i (fu.tr f1) ⟨hn, hmn, hPn, hlt, a1, fun q hq2 => ?_⟩
        by_cases e : q = i
        · subst e
          unfold tok_1
          rw [a2, a3, a4, hPn]
          unfold tk tw
          rw [if_pos (Nat.le_refl n), if_pos (Nat.le_refl n)]
          exact ⟨rfl, rfl, rfl⟩
        · unfold tok_1
          rw [a5 32 q (by omega) e, a5 33 q (by omega) e, a5 34 q (by omega) e]
          exact hq q (by omega)
      exact w_X7_splitTape_14 (by omega) ⟨fun _ => hend, fun q => absurd (by rw [show (500 : Int32) = nI 500 from rfl, nI_leI (by omega) (by omega)]; omega) q⟩
    | succ k ih =>
      intro i u hi fu hu hlt hq
      have hP := PS_sp T n i
      have hPle := hP.1.1
      have tpu : ∀ j, j < n → u.1 31 0 j = T j := fun j hj => by rw [fS_tape fu]; exact hT j hj
      refine w_X7_splitTape_14 (by omega) (pk_le 500 i (fun q => absurd q (by omega)) (fun _ => pk_le n (PS T n i) (fun hge => ?_) (fun hlt2 => ⟨nu_in (by omega) (by omega), ?_⟩) rfl rfl (by omega) (by omega)) rfl rfl (by omega) (by omega))
      · have hPn : PS T n i = n := by omega
        have hmn : i ≤ n := by
          cases i with
          | zero => omega
          | succ i =>
            have h1 := hlt i (by omega)
            have h2 := (PS_sp T n i).2
            omega
        refine k_addToken (q := i) (by omega) hu (fun v1 f1 a1 a2 a3 a4 a5 => ?_)
        refine hQ v1 i (fu.tr f1) ⟨hn, hmn, hPn, hlt, a1, fun q hq2 => ?_⟩
        by_cases e : q = i
        · subst e
          unfold tok_1
          rw [a2, a3, a4, hPn]
          unfold tk tw
          rw [if_pos (Nat.le_refl n), if_pos (Nat.le_refl n)]
          exact ⟨rfl, rfl, rfl⟩
        · unfold tok_1
          rw [a5 32 q (by omega) e, a5 33 q (by omega) e, a5 34 q (by omega) e]
          exact hq q (by omega)
      · rw [nI_clamp (by omega), tpu _ hlt2]
        have nxt : PS T n (i + 1) = nx T n (PS T n i) := if_pos hlt2
        have go : ∀ (u2 : gd_D), fr fS u u2 → u2.1 7 0 10 = nI (i + 1) → u2.1 32 0 i = nI (tk T n (PS T n i)) → u2.1 33 0 i = nI (PS T n i) → u2.1 34 0 i = tw T n (PS T n i) → (∀ k z, ¬ k = 7 → ¬ z = i → u2.1 k 0 z = u.1 k 0 z) → wp_X7_splitTape_115 g d (nI n) (nI i) (nI (te T n (PS T n i))) u2 Q := by
          intro u2 f2 a1 a2 a3 a4 a5
          have ht := te_sp (T := T) hlt2
          refine k_passBlanks (T := T) (fun j hj => by rw [fS_tape f2]; exact tpu j hj) hn ht.2 ?_
          rw [gd_rI_at, nu_1]
          have := ih (i + 1) u2 (by omega) (fu.tr f2) a1 (fun z hz => by
            by_cases e : z = i
            · subst e; exact hlt2
            · exact hlt z (by omega)) (fun q hq2 => by
            by_cases e : q = i
            · subst e; exact ⟨a2, a3, a4⟩
            · unfold tok_1
              rw [a5 32 q (by omega) e, a5 33 q (by omega) e, a5 34 q (by omega) e]
              exact hq q (by omega))
          rw [nxt] at this
          exact this
        have tk1 : tk T n (PS T n i) = if isL (T (PS T n i)) then 1 else if isN (T (PS T n i)) then 2 else 3 := if_neg (by omega)
        have tw1 : tw T n (PS T n i) = if isL (T (PS T n i)) then wcode (wi T n (PS T n i)) else if isN (T (PS T n i)) then nI (nm T n (PS T n i)) else T (PS T n i) := if_neg (by omega)
        have te1 : te T n (PS T n i) = if isL (T (PS T n i)) then rn isL T n (PS T n i) else if isN (T (PS T n i)) then rn isN T n (PS T n i) else PS T n i + 1 := rfl
        refine k_isLetter ?_
        rw [gd_rI_at]
        refine ⟨fun z => ⟨nu_in (by omega) (by omega), ?_⟩, fun z => ?_⟩
        · have hL := b2_0 z
          rw [hL, if_neg Bool.false_ne_true] at tk1 tw1 te1
          rw [tpu _ hlt2]
          refine k_isDigit ?_
          rw [gd_rI_at]
          refine ⟨fun z2 => ⟨nu_in (by omega) (by omega), ?_⟩, fun z2 => ?_⟩
          · have hN := b2_0 z2
            rw [hN, if_neg Bool.false_ne_true] at tk1 tw1 te1
            rw [tpu _ hlt2]
            refine k_addToken (q := i) (by omega) hu (fun v1 f1 a1 a2 a3 a4 a5 => ?_)
            rw [gd_rV_at]
            have := go v1 f1 a1 (by rw [a2, tk1]; rfl) a3 (by rw [a4, tw1]) a5
            rw [te1] at this
            rw [nu_1]; exact this
          · have hN := b2_1 z2
            rw [hN, if_pos rfl] at tk1 tw1 te1
            refine k_passDigits (T := T) (Nat.le_refl 3) tpu hn hPle ?_
            rw [gd_rI_at]
            refine k_numberAt (Nat.le_refl 3) tpu hn hPle ?_
            rw [gd_rI_at]
            refine k_addToken (q := i) (by omega) hu (fun v1 f1 a1 a2 a3 a4 a5 => ?_)
            rw [gd_rV_at]
            have := go v1 f1 a1 (by rw [a2, tk1]; rfl) a3 (by rw [a4, tw1]) a5
            rw [te1] at this
            exact this
        · have hL := b2_1 z
          rw [hL, if_pos rfl] at tk1 tw1 te1
          refine k_passLetters (T := T) (Nat.le_refl 3) tpu hn hPle ?_
          rw [gd_rI_at]
          refine k_wordAt (Nat.le_refl 9) tpu hn hPle ?_
          rw [gd_rI_at]
          refine k_addToken (q := i) (by omega) hu (fun v1 f1 a1 a2 a3 a4 a5 => ?_)
          rw [gd_rV_at]
          have := go v1 f1 a1 (by rw [a2, tk1]; rfl) a3 (by rw [a4, tw1]) a5
          rw [te1] at this
          exact this
  exact key 500 0 _ (by omega) f0 sI_at (fun z hz => absurd hz (by omega)) (fun z hz => absurd hz (by omega))
end TKC
