/-! THE REFERENCE: small methods -/
section RF1
variable {g : ab_E} {d : Nat} {v : gd_D} {Q : ab_O → gd_D → Prop} {H : hs_T}
theorem r_of0 {s w x : Nat} (hs : s < 24) (hw : w < 9) (hx : v.2.1 40 0 (57 + 9 * s + w) = lN x) (h : Q (Sum.inl (some (zI (nI x)))) v) : gd_C g mX11_of0 d 0 0 [zR 11 0, zI (nI s), zI (nI w)] v Q := by
  refine c_X11_of0 (Nat.zero_le _) ?_
  unfold wp_X11_of0
  rw [nu_s, nI_clamp (by omega)]
  refine ⟨nu_in (by omega) (by omega), ?_⟩
  rintro _ rfl
  rw [hx, lN_i]
  exact h
/-- of0 over a house -/
theorem r_of {s w : Nat} (hR : rm_R (v.2.1 40 0) H) (hW : hs_W H) (hs : s < Hh H 1) (hw : w < 9) (h : Q (Sum.inl (some (zI (nI (Hs H s w))))) v) : gd_C g mX11_of0 d 0 0 [zR 11 0, zI (nI s), zI (nI w)] v Q :=
  r_of0 (by have := hW.2.1; omega) hw (hR.2.2.2.2.1 s hs w hw) h
theorem r_dealers (hR : rm_R (v.2.1 40 0) H) (h : Q (Sum.inl (some (zI (nI (Hh H 0))))) v) : gd_C g mX11_dealers d 0 0 [zR 11 0] v Q := by
  refine c_X11_dealers (Nat.zero_le _) ⟨nu_in (n := 0) (by decide) (by decide), ?_⟩
  rintro _ rfl
  rw [show ((0 : Int32)).toNatClampNeg = 0 from by decide, hR.1 0 (by decide), lN_i]
  exact h
theorem r_sales (hR : rm_R (v.2.1 40 0) H) (h : Q (Sum.inl (some (zI (nI (Hh H 1))))) v) : gd_C g mX11_sales d 0 0 [zR 11 0] v Q := by
  refine c_X11_sales (Nat.zero_le _) ⟨nu_in (n := 1) (by decide) (by decide), ?_⟩
  rintro _ rfl
  rw [show ((1 : Int32)).toNatClampNeg = 1 from by decide, hR.1 1 (by decide), lN_i]
  exact h
theorem r_isAsked {i : Nat} (hd : 3 ≤ d) (hR : rm_R (v.2.1 40 0) H) (hW : hs_W H) (hi : i < Hh H 1) (h : Q (Sum.inl (some (zI (b2 (hq H i))))) v) : gd_C g mX11_isAsked d 0 0 [zR 11 0, zI (nI i)] v Q := by
  have hS := hW.2.2.2.2.2.2.2.2.1 i hi
  have hday := hW.2.2.1
  refine c_X11_isAsked hd (r_of (w := 4) hR hW hi (by decide) ⟨nu_in (n := 2) (by decide) (by decide), ?_⟩)
  rw [show ((2 : Int32)).toNatClampNeg = 2 from by decide, hR.1 2 (by decide), nu_l (by have := hS.2.2.2.2.2.1; omega)]
  refine ⟨fun hc => ?_, fun hc => ?_⟩
  · rw [lN_lt (by omega) (by have := hS.2.2.2.2.2.1; omega)] at hc
    rw [show hq H i = false from by unfold hq; rw [decide_eq_false (by omega)]; rfl] at h
    exact h
  · rw [lN_lt (by omega) (by have := hS.2.2.2.2.2.1; omega)] at hc
    refine r_of (w := 5) hR hW hi (by decide) ⟨fun hc2 => ?_, fun hc2 => ?_⟩
    · have e : Hs H i 5 = 0 := by
        rw [nu_I 0, nI_leI (by have := hS.2.2.2.2.2.2; have := hS.2.2.2.1.2; omega) (by decide)] at hc2; omega
      rw [show hq H i = false from by unfold hq; rw [e]; simp] at h
      exact h
    · have e : 0 < Hs H i 5 := by
        rw [nu_I 0, nI_leI (by have := hS.2.2.2.2.2.2; have := hS.2.2.2.1.2; omega) (by decide)] at hc2; omega
      rw [show hq H i = true from by unfold hq; rw [decide_eq_true e, decide_eq_true (by omega)]; rfl] at h
      exact h
theorem r_lies {x lo hi : Int64} (h : Q (Sum.inl (some (zI (b2 (decide (lo ≤ x ∧ x ≤ hi)))))) v) : gd_C g mX11_lies d 0 0 [zJ x, zJ lo, zJ hi] v Q := by
  refine c_X11_lies (Nat.zero_le _) ⟨fun hc => ?_, fun hc => ⟨fun hc2 => ?_, fun hc2 => ?_⟩⟩
  · rw [decide_eq_false (fun q => by have := q.1; rw [Int64.le_iff_toInt_le] at this; rw [Int64.lt_iff_toInt_lt] at hc; omega)] at h; exact h
  · rw [decide_eq_false (fun q => by have := q.2; rw [Int64.le_iff_toInt_le] at this; rw [Int64.lt_iff_toInt_lt] at hc2; omega)] at h; exact h
  · rw [decide_eq_true (by rw [Int64.le_iff_toInt_le, Int64.le_iff_toInt_le]; rw [Int64.lt_iff_toInt_lt] at hc hc2; omega)] at h; exact h
/-- fails() -/
theorem r_fails (hd : 4 ≤ d) (hR : rm_R (v.2.1 40 0) H) (hW : hs_W H) (h : Q (Sum.inl (some (zI (nI (hf H (Hh H 1)))))) v) : gd_C g mX11_fails d 0 0 [zR 11 0] v Q := by
  refine c_X11_fails (Nat.zero_le _) ?_
  have key : ∀ k i, i + k = Hh H 1 → gd_G g mX11_fails d 0 0 4 [(0, zR 11 0), (1, zI (nI (hf H i))), (2, zI (nI i))] [] v Q := by
    intro k
    induction k with
    | zero =>
      intro i hi
      have e : i = Hh H 1 := by omega
      subst e
      exact w_X11_fails_4 hd (r_sales hR ⟨fun _ => h, fun hc => absurd (nI_le (Nat.le_refl _) (by have := hW.2.1; omega)) hc⟩)
    | succ k ih =>
      intro i hi
      have hlt : i < Hh H 1 := by omega
      refine w_X11_fails_4 hd (r_sales hR ⟨fun hc => absurd hc (nI_ge hlt (by have := hW.2.1; omega)), fun _ => r_isAsked (Nat.le_refl 3) hR hW hlt ⟨fun hc => ?_, fun hc => ?_⟩⟩)
      · have := ih (i + 1) (by omega)
        rw [show hf H (i + 1) = hf H i from by show hf H i + (if hq H i then 1 else 0) = _; rw [b2_0 hc]; simp] at this
        show gd_G g mX11_fails d 0 0 4 [(0, zR 11 0), (1, zI (nI (hf H i) + 0)), (2, zI (nI i + 1))] [] v Q
        rw [nu_1, nu_I 0, nI_add]; exact this
      · have := ih (i + 1) (by omega)
        rw [show hf H (i + 1) = hf H i + 1 from by show hf H i + (if hq H i then 1 else 0) = _; rw [b2_1 hc]; simp] at this
        show gd_G g mX11_fails d 0 0 4 [(0, zR 11 0), (1, zI (nI (hf H i) + 1)), (2, zI (nI i + 1))] [] v Q
        rw [nu_1, nu_1]; exact this
  exact key (Hh H 1) 0 (by omega)
theorem r_fine1 {x c k : Int32} (hx : ¬ x = 0) (ht : v.1 11 0 0 = 0) (h : Q (Sum.inl (some (zI 1))) v) : gd_C g mX11_isFine d 0 0 [zR 11 0, zI x, zI c, zI k] v Q :=
  c_X11_isFine (Nat.zero_le _) ⟨fun _ => ⟨fun hc => absurd ht hc, fun _ => h⟩, fun hc => absurd hc hx⟩
/-- a refusal, told -/
def rm_no (v : gd_D) (c : Int32) (k : Nat) : gd_D := gd_sI (gd_sI v 11 0 0 c) 39 0 k (v.1 39 0 k + 1)
theorem r_fine0 {c : Int32} {k : Nat} (hk : k < 3) (hc : ¬ c = 0) (ht : v.1 11 0 0 = 0) (h : Q (Sum.inl (some (zI 0))) (rm_no v c k)) : gd_C g mX11_isFine d 0 0 [zR 11 0, zI 0, zI c, zI (nI k)] v Q := by
  refine c_X11_isFine (Nat.zero_le _) ⟨fun hc => absurd rfl hc, fun _ => ⟨fun hc => absurd ht hc, fun _ => ?_⟩⟩
  rintro _ rfl
  refine ⟨nu_in hk (by decide), nu_in hk (by decide), ?_⟩
  rintro _ rfl
  rw [nI_clamp (by omega), sI_ne (by omega)]
  refine ⟨fun _ => h, fun hc2 => ?_⟩
  rw [sI_ne (by omega), sI_at] at hc2
  exact absurd hc2 hc
theorem nu_sub1 {n : Nat} (hn : n < 2 ^ 30) (x : Int32) : (0 ≤ (x.toInt64 : Int64) ∧ x.toInt64 ≤ (nI n - 1 : Int32).toInt64) ↔ ∃ j, j < n ∧ x = nI j := by
  rw [Int64.le_iff_toInt_le, Int64.le_iff_toInt_le, Int32.toInt_toInt64, Int32.toInt_toInt64, show (0 : Int64).toInt = 0 from by decide]
  have e : (nI n - 1 : Int32).toInt = (n : Int) - 1 := by
    have := pk_sub_toInt (a := n) (b := 1) hn (by decide)
    exact this
  rw [e]
  constructor
  · rintro ⟨h1, h2⟩
    refine ⟨x.toInt.toNat, by omega, ?_⟩
    apply Int32.toInt_inj.mp
    rw [nI_toInt (by omega)]; omega
  · rintro ⟨j, hj, rfl⟩
    rw [nI_toInt (by omega)]; omega
theorem r_isDealer {x : Int32} (hd : 3 ≤ d) (hR : rm_R (v.2.1 40 0) H) (hW : hs_W H) (h1 : ∀ i, i < Hh H 0 → x = nI i → Q (Sum.inl (some (zI 1))) v) (h0 : (∀ i, i < Hh H 0 → ¬ x = nI i) → Q (Sum.inl (some (zI 0))) v) : gd_C g mX11_isDealer d 0 0 [zR 11 0, zI x] v Q := by
  refine c_X11_isDealer hd (r_dealers hR (r_lies ⟨b2_n _, ?_⟩))
  by_cases hc : 0 ≤ (x.toInt64 : Int64) ∧ x.toInt64 ≤ (nI (Hh H 0) - 1 : Int32).toInt64
  · rw [decide_eq_true hc]
    obtain ⟨i, hi, e⟩ := (nu_sub1 (by have := hW.1; omega) x).mp hc
    exact h1 i hi e
  · rw [decide_eq_false hc]
    exact h0 (fun i hi e => hc ((nu_sub1 (by have := hW.1; omega) x).mpr ⟨i, hi, e⟩))
theorem r_isSale {x : Int32} (hd : 3 ≤ d) (hR : rm_R (v.2.1 40 0) H) (hW : hs_W H) (h1 : ∀ i, i < Hh H 1 → x = nI i → Q (Sum.inl (some (zI 1))) v) (h0 : (∀ i, i < Hh H 1 → ¬ x = nI i) → Q (Sum.inl (some (zI 0))) v) : gd_C g mX11_isSale d 0 0 [zR 11 0, zI x] v Q := by
  refine c_X11_isSale hd (r_sales hR (r_lies ⟨b2_n _, ?_⟩))
  by_cases hc : 0 ≤ (x.toInt64 : Int64) ∧ x.toInt64 ≤ (nI (Hh H 1) - 1 : Int32).toInt64
  · rw [decide_eq_true hc]
    obtain ⟨i, hi, e⟩ := (nu_sub1 (by have := hW.2.1; omega) x).mp hc
    exact h1 i hi e
  · rw [decide_eq_false hc]
    exact h0 (fun i hi e => hc ((nu_sub1 (by have := hW.2.1; omega) x).mpr ⟨i, hi, e⟩))
/-- unitsOf() -/
theorem oi_hm {a : Option Nat} (ha : ∀ y, a = some y → y < 8) {x : Nat} (hx : x < 8) : (oi a = -1 → hm a x = true) ∧ (¬ oi a = -1 → (nI x = oi a ↔ hm a x = true)) := by
  cases a with
  | none => exact ⟨fun _ => rfl, fun h => absurd rfl h⟩
  | some y =>
    have hy := ha y rfl
    refine ⟨fun h => absurd h (nu_m1 (by omega)), fun _ => ?_⟩
    show nI x = nI y ↔ decide (x = y) = true
    rw [nI_eq (by omega) (by omega), decide_eq_true_iff]
theorem r_unitsOf {a b : Option Nat} (ha : ∀ y, a = some y → y < 8) (hb : ∀ y, b = some y → y < 8) (hd : 4 ≤ d) (hR : rm_R (v.2.1 40 0) H) (hW : hs_W H) (h : Q (Sum.inl (some (zI (nI (hu H a b (Hh H 1)))))) v) : gd_C g mX11_unitsOf d 0 0 [zR 11 0, zI (oi a), zI (oi b)] v Q := by
  refine c_X11_unitsOf (Nat.zero_le _) ?_
  have h24 := hW.2.1
  have key : ∀ k i, i + k = Hh H 1 → gd_G g mX11_unitsOf d 0 0 5 [(0, zR 11 0), (1, zI (oi a)), (2, zI (oi b)), (3, zI (nI (hu H a b i))), (4, zI (nI i))] [] v Q := by
    intro k
    induction k with
    | zero =>
      intro i hi
      have e : i = Hh H 1 := by omega
      subst e
      exact w_X11_unitsOf_5 hd (r_sales hR ⟨fun _ => h, fun hc => absurd (nI_le (Nat.le_refl _) (by omega)) hc⟩)
    | succ k ih =>
      intro i hi
      have hlt : i < Hh H 1 := by omega
      have hS := hW.2.2.2.2.2.2.2.2.1 i hlt
      have h8 := hW.1
      have ih1 := ih (i + 1) (by omega)
      have no : (hq H i && (hm a (Hs H i 0) && hm b (Hs H i 1))) = false → gd_G g mX11_unitsOf d 0 0 5 [(0, zR 11 0), (1, zI (oi a)), (2, zI (oi b)), (3, zI (nI (hu H a b i))), (4, zI (nI i + 1))] [] v Q := by
        intro e
        rw [nu_1]
        have e2 : hu H a b (i + 1) = hu H a b i := by show hu H a b i + _ = _; rw [e]; rfl
        rw [e2] at ih1; exact ih1
      have yes : (hq H i && (hm a (Hs H i 0) && hm b (Hs H i 1))) = true → wp_X11_unitsOf_55 g d (oi a) (oi b) (nI (hu H a b i)) (nI i) v Q := by
        intro e
        refine r_of (w := 5) hR hW hlt (by decide) ?_
        show gd_G g mX11_unitsOf d 0 0 5 [(0, zR 11 0), (1, zI (oi a)), (2, zI (oi b)), (3, zI (nI (hu H a b i) + nI (Hs H i 5))), (4, zI (nI i + 1))] [] v Q
        rw [nu_1, nI_add]
        have e2 : hu H a b (i + 1) = hu H a b i + Hs H i 5 := by show hu H a b i + _ = _; rw [e]; rfl
        rw [e2] at ih1; exact ih1
      have mid : hq H i = true → hm a (Hs H i 0) = true → wp_X11_unitsOf_39 g d (oi a) (oi b) (nI (hu H a b i)) (nI i) v Q := by
        intro e1 e2
        have hmb := oi_hm hb (x := Hs H i 1) (by have := hS.2.1; omega)
        refine ⟨fun hc => yes (by rw [e1, e2, hmb.1 hc]; rfl), fun hc => r_of (w := 1) hR hW hlt (by decide) ⟨fun hc2 => no ?_, fun hc2 => yes ?_⟩⟩
        · rw [e1, e2]
          cases hb2 : hm b (Hs H i 1) with
          | false => rfl
          | true => exact absurd ((hmb.2 hc).mpr hb2) hc2
        · rw [e1, e2, (hmb.2 hc).mp hc2]; rfl
      have hma := oi_hm ha (x := Hs H i 0) (by have := hS.1; omega)
      refine w_X11_unitsOf_5 hd (r_sales hR ⟨fun hc => absurd hc (nI_ge hlt (by omega)), fun _ => r_isAsked (Nat.le_refl 3) hR hW hlt ⟨fun hc => no (by rw [b2_0 hc]; rfl), fun hc => ⟨fun hc2 => mid (b2_1 hc) (hma.1 hc2), fun hc2 => r_of (w := 0) hR hW hlt (by decide) ⟨fun hc3 => no ?_, fun hc3 => mid (b2_1 hc) ((hma.2 hc2).mp hc3)⟩⟩⟩⟩)
      rw [b2_1 hc]
      cases ha2 : hm a (Hs H i 0) with
      | false => rfl
      | true => exact absurd ((hma.2 hc2).mpr ha2) hc3
  exact key (Hh H 1) 0 (by omega)
end RF1
