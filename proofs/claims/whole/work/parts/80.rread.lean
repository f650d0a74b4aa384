/-! TEXT, the reference's side: signs, words, numbers -/
def rP (v : gd_D) (T : Nat → Int32) (n : Nat) (y : rY) : Prop := (n ≤ 500 ∧ v.1 11 0 10 = nI n ∧ ∀ j, j < n → v.1 45 0 j = T j) ∧ ∃ h, v.1 11 0 11 = nI h ∧ match y with
  | Sum.inl e => h ≤ 520 ∧ 1 ≤ e.1 ∧ e.1 ≤ 4 ∧ v.1 11 0 13 = nI e.1 ∧ v.1 11 0 14 = nI e.2
  | Sum.inr p => h ≤ n ∧ v.1 11 0 13 = 0 ∧ rn isB T n h = p
def fD (k i j : Nat) : Prop := k = 11 ∧ i = 0 ∧ (j = 11 ∨ j = 12 ∨ j = 13 ∨ j = 14)
def fD1 (k i j : Nat) : Prop := k = 11 ∧ i = 0 ∧ j = 11
theorem fD1_D : ∀ k i j, fD1 k i j → fD k i j := fun _ _ _ q => ⟨q.1, q.2.1, Or.inl q.2.2⟩
/-- exactly at p -/
def rE (v : gd_D) (T : Nat → Int32) (n p : Nat) : Prop := (n ≤ 500 ∧ v.1 11 0 10 = nI n ∧ ∀ j, j < n → v.1 45 0 j = T j) ∧ v.1 11 0 11 = nI p ∧ v.1 11 0 13 = 0 ∧ stt T n p
theorem rE.P {v : gd_D} {T : Nat → Int32} {n p : Nat} (h : rE v T n p) : rP v T n (Sum.inr p) := ⟨h.1, p, h.2.1, h.2.2.2.1, h.2.2.1, h.2.2.2.rn⟩
section RB
variable {g : ab_E} {d : Nat} {v : gd_D} {Q : ab_O → gd_D → Prop} {T : Nat → Int32} {n : Nat}
theorem rT.k {v' : gd_D} {X : Nat → Nat → Nat → Prop} (h : n ≤ 500 ∧ v.1 11 0 10 = nI n ∧ ∀ j, j < n → v.1 45 0 j = T j) (hf : fr X v v') (h1 : ¬ X 11 0 10) (h2 : ∀ j, ¬ X 45 0 j) : n ≤ 500 ∧ v'.1 11 0 10 = nI n ∧ ∀ j, j < n → v'.1 45 0 j = T j := ⟨h.1, by rw [(hf.1 11 0 10 h1).1]; exact h.2.1, by rw [hf.I h2]; exact h.2.2⟩
theorem rT.D {v' : gd_D} (h : n ≤ 500 ∧ v.1 11 0 10 = nI n ∧ ∀ j, j < n → v.1 45 0 j = T j) (hf : fr fD v v') : n ≤ 500 ∧ v'.1 11 0 10 = nI n ∧ ∀ j, j < n → v'.1 45 0 j = T j := rT.k h hf (fun q => by have := q.2.2; omega) (fun j q => absurd q.1 (by decide))
theorem r_wrong {w q : Nat} (h1 : 1 ≤ w) (h4 : w ≤ 4) {y : rY} (hP : rP v T n y) (hQ : ∀ v', fr fD v v' → v'.1 11 0 11 = v.1 11 0 11 → v'.1 11 0 12 = v.1 11 0 12 → rP v' T n (yb y (fun _ => Sum.inl (w, q))) → Q (Sum.inl none) v') : gd_C g mX11_wrong d 0 0 [zR 11 0, zI (nI w), zI (nI q)] v Q := by
  have hP' := hP
  obtain ⟨ht, h, hh, h3⟩ := hP
  have hn := ht.1
  cases y with
  | inl e =>
    obtain ⟨e0, e1, e2, e3, e4⟩ := h3
    exact c_X11_wrong (Nat.zero_le _) (pk_le e.1 0 (fun q => absurd q (by omega)) (fun _ => hQ v fr.rf rfl rfl hP') e3 rfl (by omega) (by omega))
  | inr p =>
    obtain ⟨e0, e3, e4⟩ := h3
    refine c_X11_wrong (Nat.zero_le _) (pk_le 0 0 (fun _ => ?_) (fun q => absurd q (by omega)) e3 rfl (by omega) (by omega))
    rintro _ rfl _ rfl
    have f2 : fr fD v (gd_sI (gd_sI v 11 0 13 (nI w)) 11 0 14 (nI q)) := (fr.sI ⟨rfl, rfl, Or.inr (Or.inr (Or.inl rfl))⟩).tr (fr.sI ⟨rfl, rfl, Or.inr (Or.inr (Or.inr rfl))⟩)
    refine hQ _ f2 (by rw [sI_ne (by omega), sI_ne (by omega)]) (by rw [sI_ne (by omega), sI_ne (by omega)]) ⟨rT.D ht f2, h, by rw [sI_ne (by omega), sI_ne (by omega)]; exact hh, by omega, h1, h4, by rw [sI_ne (by omega), sI_at], sI_at⟩
theorem r_sign {y : rY} (hP : rP v T n y) (h0 : ∀ v' x e, y = Sum.inl e → fr fD1 v v' → rP v' T n (Sum.inl e) → Q (Sum.inl (some (zI x))) v') (h1 : ∀ v' p, y = Sum.inr p → fr fD1 v v' → rE v' T n p → Q (Sum.inl (some (zI (if p < n then T p else 0)))) v') : gd_C g mX11_sign d 0 0 [zR 11 0] v Q := by
  obtain ⟨ht, h, hh, h3⟩ := hP
  have hn := ht.1
  have key : ∀ (k h : Nat) (u : gd_D), n ≤ h + k → h ≤ 520 → fr fD1 v u → u.1 11 0 11 = nI h → (match y with
      | Sum.inl e => 1 ≤ e.1 ∧ e.1 ≤ 4 ∧ u.1 11 0 13 = nI e.1 ∧ u.1 11 0 14 = nI e.2
      | Sum.inr p => h ≤ n ∧ u.1 11 0 13 = 0 ∧ rn isB T n h = p) → gd_G g mX11_sign d 0 0 0 [(0, zR 11 0)] [] u Q := by
    intro k
    induction k with
    | zero =>
      intro h u hk h520 fu hu hy
      have tu := rT.D ht (fu.wk fD1_D)
      have fin : wp_X11_sign_38 g d u Q := by
        refine pk_le n h (fun _ => ?_) (fun q => absurd q (by omega)) tu.2.1 hu (by omega) (by omega)
        cases y with
        | inl e => exact h0 u 0 e rfl fu ⟨tu, h, hu, h520, hy⟩
        | inr p =>
          obtain ⟨y1, y2, y3⟩ := hy
          have e : h = n := by omega
          have y3 : rn isB T n h = p := y3
          rw [rn_ge (by omega)] at y3
          have := h1 u p rfl fu ⟨tu, by rw [← y3]; exact hu, y2, by rw [← y3]; omega, fun q => absurd q (by omega)⟩
          rw [if_neg (by omega)] at this
          exact this
      exact w_X11_sign (Nat.zero_le _) (pk_le n h (fun _ => fin) (fun q => absurd q (by omega)) tu.2.1 hu (by omega) (by omega))
    | succ k ih =>
      intro h u hk h520 fu hu hy
      have tu := rT.D ht (fu.wk fD1_D)
      have fin : (h < n → isB (T h) = false) → wp_X11_sign_38 g d u Q := by
        intro hb
        refine pk_le n h (fun hge => ?_) (fun hlt => ?_) tu.2.1 hu (by omega) (by omega)
        · cases y with
          | inl e => exact h0 u 0 e rfl fu ⟨tu, h, hu, h520, hy⟩
          | inr p =>
            obtain ⟨y1, y2, y3⟩ := hy
            have y3 : rn isB T n h = p := y3
            rw [rn_ge (by omega)] at y3
            have := h1 u p rfl fu ⟨tu, by rw [← y3]; exact hu, y2, by rw [← y3]; omega, fun q => absurd q (by omega)⟩
            rw [if_neg (by omega)] at this
            exact this
        · rw [hu, nI_clamp (by omega), tu.2.2 h hlt]
          refine ⟨nu_in (by omega) (by omega), ?_⟩
          cases y with
          | inl e => exact h0 u _ e rfl fu ⟨tu, h, hu, h520, hy⟩
          | inr p =>
            obtain ⟨y1, y2, y3⟩ := hy
            have y3 : rn isB T n h = p := y3
            rw [rn_no hlt (hb hlt)] at y3
            have := h1 u p rfl fu ⟨tu, by rw [← y3]; exact hu, y2, by rw [← y3]; exact ⟨y1, hb⟩⟩
            rw [if_pos (by omega), ← y3] at this
            exact this
      refine w_X11_sign (Nat.zero_le _) (pk_le n h (fun hge => fin (fun q => absurd q (by omega))) (fun hlt => ?_) tu.2.1 hu (by omega) (by omega))
      rw [hu, nI_clamp (by omega), tu.2.2 h hlt]
      refine ⟨nu_in (by omega) (by omega), fun q => fin (fun _ => decide_eq_false q), fun q => ?_⟩
      rintro _ rfl
      rw [nu_1]
      have f2 : fr fD1 u (gd_sI u 11 0 11 (nI (h + 1))) := fr.sI ⟨rfl, rfl, rfl⟩
      refine ih (h + 1) _ (by omega) (by omega) (fu.tr f2) sI_at ?_
      cases y with
      | inl e =>
        show 1 ≤ e.1 ∧ e.1 ≤ 4 ∧ _ ∧ _
        rw [sI_ne (by omega), sI_ne (by omega)]; exact hy
      | inr p =>
        obtain ⟨y1, y2, y3⟩ := hy
        have y3 : rn isB T n h = p := y3
        rw [rn_go hlt (decide_eq_true q)] at y3
        exact ⟨by omega, by rw [sI_ne (by omega)]; exact y2, y3⟩
  refine gd_enterF (L0 := [(0, zR 11 0)]) (plainFor_of_name (by decide)) (Nat.le_of_ble_eq_true rfl) rfl (key n h v (by omega) ?_ fr.rf hh ?_)
  · cases y with
    | inl e => exact h3.1
    | inr p => have := h3.1; omega
  · cases y with
    | inl e => exact h3.2
    | inr p => exact h3
theorem r_isSmall {k : Nat} (hk : k < 2 ^ 31) (ht : n ≤ 500 ∧ v.1 11 0 10 = nI n ∧ ∀ j, j < n → v.1 45 0 j = T j) (hQ : Q (Sum.inl (some (zI (b2 (decide (k < n) && isL (T k)))))) v) : gd_C g mX11_isSmall d 0 0 [zR 11 0, zI (nI k)] v Q := by
  have hn := ht.1
  refine c_X11_isSmall (Nat.zero_le _) (pk_le n k (fun hge => ?_) (fun hlt => ?_) ht.2.1 rfl (by omega) hk)
  · rw [decide_eq_false (by omega), Bool.false_and] at hQ; exact hQ
  · rw [nI_clamp hk, ht.2.2 k hlt]
    rw [decide_eq_true hlt, Bool.true_and] at hQ
    unfold isL at hQ
    refine ⟨nu_in (by omega) (by omega), fun h1 => ?_, fun h1 => ⟨nu_in (by omega) (by omega), fun h2 => ?_, fun h2 => ?_⟩⟩
    · rw [decide_eq_false (fun q => (i32_nlt.mpr q) h1)] at hQ; exact hQ
    · rw [decide_eq_true (i32_nlt.mp h1), decide_eq_false (fun q => (i32_nlt.mpr q) h2)] at hQ; exact hQ
    · rw [decide_eq_true (i32_nlt.mp h1), decide_eq_true (i32_nlt.mp h2)] at hQ; exact hQ
theorem r_isFigure {k : Nat} (hk : k < 2 ^ 31) (ht : n ≤ 500 ∧ v.1 11 0 10 = nI n ∧ ∀ j, j < n → v.1 45 0 j = T j) (hQ : Q (Sum.inl (some (zI (b2 (decide (k < n) && isN (T k)))))) v) : gd_C g mX11_isFigure d 0 0 [zR 11 0, zI (nI k)] v Q := by
  have hn := ht.1
  refine c_X11_isFigure (Nat.zero_le _) (pk_le n k (fun hge => ?_) (fun hlt => ?_) ht.2.1 rfl (by omega) hk)
  · rw [decide_eq_false (by omega), Bool.false_and] at hQ; exact hQ
  · rw [nI_clamp hk, ht.2.2 k hlt]
    rw [decide_eq_true hlt, Bool.true_and] at hQ
    unfold isN at hQ
    refine ⟨nu_in (by omega) (by omega), fun h1 => ?_, fun h1 => ⟨nu_in (by omega) (by omega), fun h2 => ?_, fun h2 => ?_⟩⟩
    · rw [decide_eq_false (fun q => (i32_nlt.mpr q) h1)] at hQ; exact hQ
    · rw [decide_eq_true (i32_nlt.mp h1), decide_eq_false (fun q => (i32_nlt.mpr q) h2)] at hQ; exact hQ
    · rw [decide_eq_true (i32_nlt.mp h1), decide_eq_true (i32_nlt.mp h2)] at hQ; exact hQ
theorem r_isHere {i p : Nat} (hi : i < 14) (hd : 7 ≤ d) (hP : rP v T n (Sum.inr p)) (hQ : ∀ v', fr fD1 v v' → rE v' T n p → Q (Sum.inl (some (zI (b2 (decide (wi T n p = i)))))) v') : gd_C g mX11_isHere d 0 0 [zR 11 0, zR 100 i] v Q := by
  have hl : tx_n i < 100 := (tx_all i hi).1
  refine c_X11_isHere_d7 (by omega) (r_sign hP (fun v1 x e q => by cases q) (fun v1 p' q f1 E1 => ?_))
  cases q
  rw [gd_rI_at]
  obtain ⟨ht, hh, hf, hst⟩ := id E1
  have hn := ht.1
  have hp := hst.1
  have fin := hQ v1 f1 E1
  have spP : wi T n p = i ↔ (rn isL T n p = p + tx_n i ∧ ∀ j, j < tx_n i → T (p + j) = tx_c i j) := by
    rw [wi_iff hi]; unfold sp
    rw [Bool.and_eq_true, decide_eq_true_iff, decide_eq_true_iff]
  have key : ∀ k j, j + k = tx_n i → (∀ z, z < j → p + z < n ∧ T (p + z) = tx_c i z) → gd_G g mX11_isHere d 0 0 7 [(0, zR 11 0), (1, zR 100 i), (2, zI (nI j))] [] v1 Q := by
    intro k
    induction k with
    | zero =>
      intro j hj ha
      refine w_X11_isHere_7_d7 hd (pk_le (tx_n i) j (fun _ => ?_) (fun q => absurd q (by omega)) rfl rfl (by omega) (by omega))
      rintro _ rfl
      rw [hh, show (Int32.ofNat (ab_tn.getD i 0)) = nI (tx_n i) from rfl, nI_add]
      refine r_isSmall (T := T) (by omega) ht ?_
      rw [gd_rI_at]
      have hle : p + tx_n i ≤ n := by
        cases hz : tx_n i with
        | zero => omega
        | succ z => have := ha z (by omega); omega
      refine ⟨fun z => ?_, fun z => ?_⟩
      · have z := b2_1 z
        rw [Bool.and_eq_true, decide_eq_true_iff] at z
        rw [decide_eq_false (fun q => ?_)] at fin
        · exact fin
        · have e := (spP.mp q).1
          have := rn_end (P := isL) (T := T) hp (by omega)
          rw [e, z.2] at this; cases this
      · have z := b2_0 z
        rw [decide_eq_true (spP.mpr ⟨rn_is (by omega) hle (fun y y1 y2 => ?_) (fun y => ?_), fun y hy => (ha y (by omega)).2⟩)] at fin
        · exact fin
        · have := (ha (y - p) (by omega)).2
          rw [show p + (y - p) = y by omega] at this
          rw [this]; exact sp_let i hi _ (by omega)
        · rw [decide_eq_true y, Bool.true_and] at z; exact z
    | succ k ih =>
      intro j hj ha
      refine w_X11_isHere_7_d7 hd (pk_le (tx_n i) j (fun q => absurd q (by omega)) (fun _ => ?_) rfl rfl (by omega) (by omega))
      rw [hh, nI_add]
      refine r_isSmall (T := T) (by omega) ht ?_
      rw [gd_rI_at]
      refine ⟨fun z => ?_, fun z => ?_⟩
      · have z := b2_0 z
        rw [decide_eq_false (fun q => ?_)] at fin
        · exact fin
        · obtain ⟨e1, e2⟩ := spP.mp q
          have hr := rn_le (P := isL) (T := T) hp
          have hL := rn_all (P := isL) (T := T) (n := n) (p := p) (i := p + j) hp (by omega) (by omega)
          rw [decide_eq_true (by omega), hL] at z; cases z
      · have z := b2_1 z
        rw [Bool.and_eq_true, decide_eq_true_iff] at z
        rw [hh, nI_add, nI_clamp (by omega), nI_clamp (by omega), ht.2.2 _ z.1]
        refine ⟨nu_in (by omega) (by omega), ?_⟩
        rintro _ rfl
        refine ⟨nu_in (N := tx_n i) (by omega) (by omega), fun y => ?_, fun y => ?_⟩
        · rw [nu_1]
          refine ih (j + 1) (by omega) (fun x hx => ?_)
          by_cases e : x = j
          · subst e; exact ⟨z.1, y⟩
          · exact ha x (by omega)
        · rw [decide_eq_false (fun q => y ((spP.mp q).2 j (by omega)))] at fin
          exact fin
  exact key (tx_n i) 0 (by omega) (fun z hz => absurd hz (by omega))
theorem te_word {p i : Nat} (hi : i < 14) (hp : p ≤ n) (h : wi T n p = i) : te T n p = p + tx_n i ∧ p < n := by
  have hs := (wi_iff (T := T) (n := n) (p := p) hi).mp h
  unfold sp at hs
  rw [Bool.and_eq_true, decide_eq_true_iff] at hs
  have hpos := sp_pos _ hi
  have hr := rn_le (P := isL) (T := T) hp
  have hL := rn_all (P := isL) (T := T) (n := n) (p := p) (i := p) hp (Nat.le_refl _) (by omega)
  unfold te
  rw [hL, if_pos rfl]
  exact ⟨hs.1, by omega⟩
theorem r_passes {c : Int32} (hcL : isL c = false) (hcN : isN c = false) (hc0 : ¬ c = 0) {y : rY} (hd : 3 ≤ d) (hP : rP v T n y) (hD : ∀ e, y = Sum.inl e → Q (Sum.inl (some (zI 0))) v) (h0 : ∀ v' p, y = Sum.inr p → ¬ (p < n ∧ T p = c) → fr fD1 v v' → rE v' T n p → Q (Sum.inl (some (zI 0))) v') (h1 : ∀ v' p, y = Sum.inr p → p < n ∧ T p = c → fr fD1 v v' → rP v' T n (Sum.inr (nx T n p)) → Q (Sum.inl (some (zI 1))) v') : gd_C g mX11_passes d 0 0 [zR 11 0, zI c] v Q := by
  have hP' := hP
  obtain ⟨ht, h, hh, h3⟩ := hP
  have hn := ht.1
  cases y with
  | inl e =>
    obtain ⟨e0, e1, e2, e3, e4⟩ := h3
    exact c_X11_passes hd (pk_lt 0 e.1 (fun _ => hD e rfl) (fun q => absurd q (by omega)) rfl e3 (by omega) (by omega))
  | inr p =>
    obtain ⟨e0, e3, e4⟩ := h3
    refine c_X11_passes hd (pk_lt 0 0 (fun q => absurd q (by omega)) (fun _ => r_sign hP' (fun v1 x e q => by cases q) (fun v1 p' q f1 E1 => ?_)) rfl e3 (by omega) (by omega))
    cases q
    rw [gd_rI_at]
    obtain ⟨t1, hh1, hf1, hst⟩ := id E1
    have hp := hst.1
    by_cases hlt : p < n
    · rw [if_pos hlt]
      refine ⟨fun q => h0 v1 p rfl (fun z => q z.2) f1 E1, fun q => pk_lt p n (fun _ => ?_) (fun z => absurd z (by omega)) hh1 t1.2.1 (by omega) (by omega)⟩
      rintro _ rfl
      rw [hh1, nu_1]
      have f2 : fr fD1 v1 (gd_sI v1 11 0 11 (nI (p + 1))) := fr.sI ⟨rfl, rfl, rfl⟩
      refine h1 _ p rfl ⟨hlt, q⟩ (f1.tr f2) ⟨rT.D t1 (f2.wk fD1_D), p + 1, sI_at, by omega, by rw [sI_ne (by omega)]; exact hf1, ?_⟩
      unfold nx te
      rw [q, hcL, if_neg Bool.false_ne_true, hcN, if_neg Bool.false_ne_true]
    · rw [if_neg hlt]
      exact ⟨fun q => h0 v1 p rfl (fun z => hlt z.1) f1 E1, fun q => absurd q.symm hc0⟩
theorem r_needs {c : Int32} (hcL : isL c = false) (hcN : isN c = false) (hc0 : ¬ c = 0) {y : rY} (hd : 4 ≤ d) (hP : rP v T n y) (hQ : ∀ v', fr fD v v' → rP v' T n (yb y (yG T n c)) → Q (Sum.inl none) v') : gd_C g mX11_needs d 0 0 [zR 11 0, zI c] v Q := by
  have hP' := hP
  obtain ⟨ht, h, hh, h3⟩ := hP
  cases y with
  | inl e =>
    obtain ⟨e0, e1, e2, e3, e4⟩ := h3
    exact c_X11_needs hd ⟨fun _ => hQ v fr.rf hP', fun q => absurd (e3.symm.trans q) (nI_ne0 e1 (by omega))⟩
  | inr p =>
    obtain ⟨e0, e3, e4⟩ := h3
    refine c_X11_needs hd ⟨fun q => absurd e3 q, fun _ => r_passes hcL hcN hc0 (Nat.le_refl 3) hP' (fun e q => by cases q) (fun v1 p' q z f1 E1 => ?_) (fun v1 p' q z f1 P1 => ?_)⟩
    · cases q
      refine ⟨fun q => absurd rfl q, fun _ => ?_⟩
      obtain ⟨t1, hh1, hf1, hst⟩ := id E1
      rw [hh1]
      refine r_wrong (w := 1) (by omega) (by omega) E1.P (fun v2 f2 _ _ P2 => ?_)
      rw [gd_rV_at]
      refine hQ v2 ((f1.wk fD1_D).tr f2) ?_
      rw [show yb (Sum.inr p) (yG T n c) = Sum.inl (1, p) from if_neg z]
      exact P2
    · cases q
      refine ⟨fun _ => hQ v1 (f1.wk fD1_D) ?_, fun q => absurd q (by decide)⟩
      rw [show yb (Sum.inr p) (yG T n c) = Sum.inr (nx T n p) from if_pos z]
      exact P1
theorem isN_L {x : Int32} (h : isN x = true) : isL x = false := by
  unfold isN at h
  rw [Bool.and_eq_true, decide_eq_true_iff, decide_eq_true_iff] at h
  unfold isL
  rw [decide_eq_false (fun q => ?_), Bool.false_and]
  have h2 := h.2
  rw [Int32.le_iff_toInt_le, show (57 : Int32).toInt = 57 from by decide] at h2
  rw [Int32.le_iff_toInt_le, show (97 : Int32).toInt = 97 from by decide] at q
  omega
theorem tk_2 {p : Nat} : tk T n p = 2 ↔ (p < n ∧ isN (T p) = true) := by
  constructor
  · intro h
    have hlt := tk_lt h (by omega)
    refine ⟨hlt, ?_⟩
    unfold tk at h
    rw [if_neg (by omega)] at h
    split at h
    · omega
    · split at h
      · assumption
      · omega
  · intro h
    unfold tk
    rw [if_neg (by omega), isN_L h.2, if_neg Bool.false_ne_true, h.2, if_pos rfl]
theorem r_number {a hx : Nat} {hi : Int64} (hhi : hi.toInt = (hx : Int) - 1) (ha : a ≤ 1) {y : rY} (hd : 3 ≤ d) (hP : rP v T n y) (h0 : ∀ v' x e, yNum T n a hx none y = Sum.inl e → fr fD v v' → rP v' T n (Sum.inl e) → Q (Sum.inl (some (zJ x))) v') (h1 : ∀ v' p w q, y = Sum.inr p → pNum T n a hx none p = Sum.inr (w, q) → fr fD v v' → v'.1 11 0 12 = nI p → rP v' T n (Sum.inr q) → Q (Sum.inl (some (zJ (lN w)))) v') : gd_C g mX11_number d 0 0 [zR 11 0, zJ (lN a), zJ hi] v Q := by
  have dead : ∀ (e : Nat × Nat) (u : gd_D), yNum T n a hx none y = Sum.inl e → fr fD v u → rP u T n (Sum.inl e) → wp_X11_number_32 g d (lN a) hi u Q := by
    intro e u he fu Pu
    obtain ⟨ht, h, hh, e0, e1, e2, e3, e4⟩ := id Pu
    exact pk_le e.1 0 (fun q => absurd q (by omega)) (fun _ => h0 u 0 e he fu Pu) e3 rfl (by omega) (by omega)
  refine c_X11_number hd (r_sign hP (fun v1 x e q f1 P1 => ?_) (fun v1 p q f1 E1 => ?_))
  · subst q
    rw [gd_rI_at]
    obtain ⟨ht, h, hh, e0, e1, e2, e3, e4⟩ := id P1
    exact ⟨fun _ => dead e v1 rfl (f1.wk fD1_D) P1, fun q => absurd (e3.symm.trans q) (nI_ne0 e1 (by omega))⟩
  · subst q
    rw [gd_rI_at]
    obtain ⟨ht, hh, hf, hst⟩ := id E1
    have hn := ht.1
    have hp := hst.1
    rw [hh]
    refine ⟨fun q => absurd hf q, fun _ => r_isFigure (T := T) (by omega) ht ?_⟩
    rw [gd_rI_at]
    refine ⟨fun z => ?_, fun z => ?_⟩
    · have z := b2_1 z
      rw [Bool.and_eq_true, decide_eq_true_iff] at z
      have tk2 := tk_2.mpr z
      refine pk_le 0 0 (fun _ => ?_) (fun q => absurd q (by omega)) hf rfl (by omega) (by omega)
      rintro _ rfl
      rw [hh]
      have f2 : fr fD v1 (gd_sI v1 11 0 12 (nI p)) := fr.sI ⟨rfl, rfl, Or.inr (Or.inl rfl)⟩
      have hr := rn_le (P := isN) (T := T) hp
      have f12 : fr fD v (gd_sI v1 11 0 12 (nI p)) := (f1.wk fD1_D).tr f2
      have loop : ∀ (k i b : Nat) (u : gd_D), i + k = rn isN T n p → p ≤ i → b ≤ 1000000 → nvf T k i b = nm T n p → fr fD v u → u.1 11 0 12 = nI p → u.1 11 0 11 = nI i → u.1 11 0 13 = 0 → gd_G g mX11_number d 0 0 52 [(0, zR 11 0), (1, zJ (lN a)), (3, zJ hi), (5, zJ (lN b))] [] u Q := by
        intro k
        induction k with
        | zero =>
          intro i b u hi2 hpi hb he fu hu12 hu11 hu13
          have he : b = nm T n p := he
          have tu := rT.D hP.1 fu
          have hin : i ≤ n := by omega
          refine w_X11_number_52 hd ?_
          unfold wp_X11_number_52
          rw [hu11]
          refine r_isFigure (T := T) (by omega) tu ?_
          have efig : (decide (i < n) && isN (T i)) = false := by
            by_cases hlt : i < n
            · have := rn_end (P := isN) (T := T) hp (by omega)
              rw [show rn isN T n p = i by omega] at this
              rw [this, Bool.and_false]
            · rw [decide_eq_false hlt, Bool.false_and]
          rw [efig, gd_rI_at]
          refine ⟨fun _ => r_lies ?_, fun q => absurd rfl q⟩
          rw [gd_rI_at]
          have lies : (lN a ≤ lN b ∧ lN b ≤ hi) ↔ (a ≤ b ∧ b < hx) := by
            rw [lN_le (by omega) (by omega), Int64.le_iff_toInt_le, lN_toInt (by omega), hhi]
            omega
          have Pq : rP u T n (Sum.inr (nx T n p)) := by
            refine ⟨tu, i, hu11, hin, hu13, ?_⟩
            unfold nx te
            rw [isN_L z.2, if_neg Bool.false_ne_true, z.2, if_pos rfl, show rn isN T n p = i by omega]
          refine ⟨fun q => ?_, fun q => ?_⟩
          · have hg := lies.mp (of_decide_eq_true (b2_1 q))
            rw [he] at hg ⊢
            refine h1 u p (nm T n p) (nx T n p) rfl ?_ fu hu12 Pq
            unfold pNum
            rw [if_pos tk2, if_pos ⟨hg.1, hg.2, fun q => by cases q⟩]
          · have hb2 := fun y => of_decide_eq_false (b2_0 q) (lies.mpr y)
            rw [hu12]
            refine r_wrong (w := 2) (by omega) (by omega) Pq (fun u2 f2 _ _ P2 => ?_)
            rw [gd_rV_at]
            refine h0 u2 _ (2, p) ?_ (fu.tr f2) P2
            show pNum T n a hx none p = Sum.inl (2, p)
            unfold pNum
            rw [if_pos tk2, if_neg (fun y => hb2 ⟨by rw [he]; exact y.1, by rw [he]; exact y.2.1⟩)]
        | succ k ih =>
          intro i b u hi2 hpi hb he fu hu12 hu11 hu13
          have tu := rT.D hP.1 fu
          have hfig := rn_all (P := isN) (T := T) (n := n) (p := p) (i := i) hp hpi (by omega)
          obtain ⟨e1, e2⟩ := dgt_of hfig
          refine w_X11_number_52 hd ?_
          unfold wp_X11_number_52
          rw [hu11]
          refine r_isFigure (T := T) (by omega) tu ?_
          rw [decide_eq_true (show i < n by omega), hfig, gd_rI_at]
          refine ⟨fun q => absurd q (by decide), fun _ => ?_⟩
          rw [hu11, nI_clamp (by omega), tu.2.2 i (by omega)]
          refine ⟨nu_in (by omega) (by omega), ?_⟩
          rintro _ rfl
          rw [e1, nu_l (by omega), nu_J 10, lN_mul, lN_add, nu_J 48, lN_sub (by omega), nu_J 1000000]
          refine c_minJ ?_
          rw [gd_rJ_at]
          rintro _ rfl
          rw [hu11, nu_1]
          have em : (if lN 1000000 < lN (10 * b + (48 + dgt (T i)) - 48) then lN 1000000 else lN (10 * b + (48 + dgt (T i)) - 48)) = lN (min (b * 10 + dgt (T i)) 1000000) := by
            rw [show 10 * b + (48 + dgt (T i)) - 48 = b * 10 + dgt (T i) by omega]
            by_cases hc : 1000000 < b * 10 + dgt (T i)
            · rw [if_pos ((lN_lt (by omega) (by omega)).mpr hc), Nat.min_eq_right (by omega)]
            · rw [if_neg (fun q => hc ((lN_lt (by omega) (by omega)).mp q)), Nat.min_eq_left (by omega)]
          rw [em]
          have f3 : fr fD u (gd_sI u 11 0 11 (nI (i + 1))) := fr.sI ⟨rfl, rfl, Or.inl rfl⟩
          exact ih (i + 1) _ _ (by omega) (by omega) (Nat.min_le_right _ _) he (fu.tr f3) (by rw [sI_ne (by omega)]; exact hu12) sI_at (by rw [sI_ne (by omega)]; exact hu13)
      exact loop (rn isN T n p - p) p 0 _ (by omega) (Nat.le_refl _) (by omega) rfl f12 sI_at (by rw [sI_ne (by omega)]; exact hh) (by rw [sI_ne (by omega)]; exact hf)
    · have z := b2_0 z
      have tk2 : ¬ tk T n p = 2 := fun q => by
        have := tk_2.mp q
        rw [decide_eq_true this.1, this.2] at z; cases z
      rw [hh]
      refine r_wrong (w := 1) (by omega) (by omega) E1.P (fun v2 f2 _ _ P2 => ?_)
      rw [gd_rV_at]
      refine dead (1, p) v2 ?_ ((f1.wk fD1_D).tr f2) P2
      show pNum T n a hx none p = _
      unfold pNum
      rw [if_neg tk2]
end RB
