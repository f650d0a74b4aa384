/-! counts over a house, the class's side -/
theorem gd_rI_at {K : Int32 → gd_D → Prop} {X : String → gd_D → Prop} {r : Int32} {v : gd_D} : gd_rI K X (Sum.inl (some (zI r))) v = K r v := rfl
theorem gd_rJ_at {K : Int64 → gd_D → Prop} {X : String → gd_D → Prop} {r : Int64} {v : gd_D} : gd_rJ K X (Sum.inl (some (zJ r))) v = K r v := rfl
theorem gd_rV_at {K : gd_D → Prop} {X : String → gd_D → Prop} {v : gd_D} : gd_rV K X (Sum.inl none) v = K v := rfl
/-- value of fails: price times open -/
def hv (H : hs_T) : Nat → Int64
  | 0 => 0
  | n + 1 => hv H n + if hq H n then lN (Hs H n 3) * lN (Hs H n 5) else 0
/-- what can be delivered of a sale -/
def h_can (H : hs_T) (i : Nat) : Nat := if Hs H i 5 ≤ Hd H (Hs H i 0) 0 then Hs H i 5 else Hd H (Hs H i 0) 0 - Hd H (Hs H i 0) 0 % Hh H 5
section CC
variable {g : ab_E} {d : Nat} {v : gd_D} {Q : ab_O → gd_D → Prop} {H : hs_T} {h : Nat}
theorem k_countFails (hd : 3 ≤ d) (hR : cr_R v h H) (hW : hs_W H) (hQ : Q (Sum.inl (some (zI (nI (hf H (Hh H 1)))))) v) : gd_C g mX2_countFails d 0 0 [zR 2 h] v Q := by
  have h24 := hW.2.1
  have e1 : v.1 2 h 3 = nI (Hh H 1) := hR.1 1 (by omega)
  refine c_X2_countFails (Nat.zero_le _) ?_
  have key : ∀ k i, i + k = Hh H 1 → gd_G g mX2_countFails d 0 0 4 [(0, zR 2 h), (1, zI (nI (hf H i))), (2, zI (nI i))] [] v Q := by
    intro k
    induction k with
    | zero =>
      intro i hi
      have e : i = Hh H 1 := by omega
      subst e
      exact w_X2_countFails_4 hd ⟨fun _ => hQ, fun hc => absurd (by rw [e1]; exact nI_le (Nat.le_refl _) (by omega)) hc⟩
    | succ k ih =>
      intro i hi
      have hlt : i < Hh H 1 := by omega
      refine w_X2_countFails_4 hd ⟨fun hc => absurd (by rw [e1] at hc; exact hc) (nI_ge hlt (by omega)), fun _ => k_isAsked hR hW hlt ⟨fun hc => ?_, fun hc => ?_⟩⟩
      · have := ih (i + 1) (by omega)
        rw [show hf H (i + 1) = hf H i from by show hf H i + (if hq H i then 1 else 0) = _; rw [b2_0 hc]; simp] at this
        show gd_G g mX2_countFails d 0 0 4 [(0, zR 2 h), (1, zI (nI (hf H i) + 0)), (2, zI (nI i + 1))] [] v Q
        rw [nu_1, nu_I 0, nI_add]; exact this
      · have := ih (i + 1) (by omega)
        rw [show hf H (i + 1) = hf H i + 1 from by show hf H i + (if hq H i then 1 else 0) = _; rw [b2_1 hc]; simp] at this
        show gd_G g mX2_countFails d 0 0 4 [(0, zR 2 h), (1, zI (nI (hf H i) + 1)), (2, zI (nI i + 1))] [] v Q
        rw [nu_1, nu_1]; exact this
  exact key (Hh H 1) 0 (by omega)
theorem k_unitsOf {a b : Option Nat} (ha : ∀ y, a = some y → y < 8) (hb : ∀ y, b = some y → y < 8) (hd : 3 ≤ d) (hR : cr_R v h H) (hW : hs_W H) (hQ : Q (Sum.inl (some (zI (nI (hu H a b (Hh H 1)))))) v) : gd_C g mX2_unitsOfFails d 0 0 [zR 2 h, zI (oi a), zI (oi b)] v Q := by
  have h24 := hW.2.1
  have e1 : v.1 2 h 3 = nI (Hh H 1) := hR.1 1 (by omega)
  refine c_X2_unitsOfFails (Nat.zero_le _) ?_
  have key : ∀ k i, i + k = Hh H 1 → gd_G g mX2_unitsOfFails d 0 0 5 [(0, zR 2 h), (1, zI (oi a)), (2, zI (oi b)), (3, zI (nI (hu H a b i))), (4, zI (nI i))] [] v Q := by
    intro k
    induction k with
    | zero =>
      intro i hi
      have e : i = Hh H 1 := by omega
      subst e
      exact w_X2_unitsOfFails_5 hd ⟨fun _ => hQ, fun hc => absurd (by rw [e1]; exact nI_le (Nat.le_refl _) (by omega)) hc⟩
    | succ k ih =>
      intro i hi
      have hlt : i < Hh H 1 := by omega
      obtain ⟨s1, s2, s0, s3, s4, s5, s6⟩ := hW.2.2.2.2.2.2.2.2.1 i hlt
      have h8 := hW.1
      have ih1 := ih (i + 1) (by omega)
      have no : (hq H i && (hm a (Hs H i 0) && hm b (Hs H i 1))) = false → gd_G g mX2_unitsOfFails d 0 0 5 [(0, zR 2 h), (1, zI (oi a)), (2, zI (oi b)), (3, zI (nI (hu H a b i))), (4, zI (nI i + 1))] [] v Q := by
        intro e
        rw [nu_1]
        have e2 : hu H a b (i + 1) = hu H a b i := by show hu H a b i + _ = _; rw [e]; rfl
        rw [e2] at ih1; exact ih1
      have last : ∀ x y : Bool, hm a (Hs H i 0) = x → hm b (Hs H i 1) = y → wp_X2_unitsOfFails_64 g d h (oi a) (oi b) (nI (hu H a b i)) (nI i) (b2 x) (b2 y) v Q := by
        intro x y hx hy
        refine ⟨fun hc => no (by rw [hx, b2_0 hc]; simp), fun hc => ⟨fun hc2 => no (by rw [hy, b2_0 hc2]; simp), fun hc2 => k_isAsked hR hW hlt ⟨fun hc3 => no (by rw [b2_0 hc3]; rfl), fun hc3 => ⟨nu_in (by omega) (by omega), ?_⟩⟩⟩⟩
        rintro _ rfl
        rw [nI_clamp (by omega), hR.2.2.2.1 i hlt 5 (by omega), nu_1, nI_add]
        have e2 : hu H a b (i + 1) = hu H a b i + Hs H i 5 := by show hu H a b i + _ = _; rw [b2_1 hc3, hx, hy, b2_1 hc, b2_1 hc2]; rfl
        rw [e2] at ih1; exact ih1
      have mid : ∀ x : Bool, hm a (Hs H i 0) = x → wp_X2_unitsOfFails_38 g d h (oi a) (oi b) (nI (hu H a b i)) (nI i) (b2 x) v Q := by
        intro x hx
        have hmb := oi_hm hb (x := Hs H i 1) (by omega)
        refine ⟨fun hc => last x true hx (hmb.1 hc), fun hc => ⟨nu_in (by omega) (by omega), ?_⟩⟩
        rintro _ rfl
        rw [nI_clamp (by omega), hR.2.2.2.1 i hlt 1 (by omega)]
        refine ⟨fun hc2 => last x false hx ?_, fun hc2 => last x true hx ((hmb.2 hc).mp hc2)⟩
        cases hb2 : hm b (Hs H i 1) with
        | false => rfl
        | true => exact absurd ((hmb.2 hc).mpr hb2) hc2
      have hma := oi_hm ha (x := Hs H i 0) (by omega)
      refine w_X2_unitsOfFails_5 hd ⟨fun hc => absurd (by rw [e1] at hc; exact hc) (nI_ge hlt (by omega)), fun _ => ⟨fun hc => mid true (hma.1 hc), fun hc => ⟨nu_in (by omega) (by omega), ?_⟩⟩⟩
      rintro _ rfl
      rw [nI_clamp (by omega), hR.2.2.2.1 i hlt 0 (by omega)]
      refine ⟨fun hc2 => mid false ?_, fun hc2 => mid true ((hma.2 hc).mp hc2)⟩
      cases ha2 : hm a (Hs H i 0) with
      | false => rfl
      | true => exact absurd ((hma.2 hc).mpr ha2) hc2
  exact key (Hh H 1) 0 (by omega)
theorem k_valueOf (hd : 3 ≤ d) (hR : cr_R v h H) (hW : hs_W H) (hQ : Q (Sum.inl (some (zJ (hv H (Hh H 1))))) v) : gd_C g mX2_valueOfFails d 0 0 [zR 2 h] v Q := by
  have h24 := hW.2.1
  have e1 : v.1 2 h 3 = nI (Hh H 1) := hR.1 1 (by omega)
  refine c_X2_valueOfFails (Nat.zero_le _) ?_
  have key : ∀ k i, i + k = Hh H 1 → gd_G g mX2_valueOfFails d 0 0 4 [(0, zR 2 h), (1, zJ (hv H i)), (3, zI (nI i))] [] v Q := by
    intro k
    induction k with
    | zero =>
      intro i hi
      have e : i = Hh H 1 := by omega
      subst e
      exact w_X2_valueOfFails_4 hd ⟨fun _ => hQ, fun hc => absurd (by rw [e1]; exact nI_le (Nat.le_refl _) (by omega)) hc⟩
    | succ k ih =>
      intro i hi
      have hlt : i < Hh H 1 := by omega
      obtain ⟨s1, s2, s0, s3, s4, s5, s6⟩ := hW.2.2.2.2.2.2.2.2.1 i hlt
      have ih1 := ih (i + 1) (by omega)
      refine w_X2_valueOfFails_4 hd ⟨fun hc => absurd (by rw [e1] at hc; exact hc) (nI_ge hlt (by omega)), fun _ => k_isAsked hR hW hlt ⟨fun hc => ?_, fun hc => ⟨nu_in (by omega) (by omega), ?_⟩⟩⟩
      · rw [nu_1]
        rw [show hv H (i + 1) = hv H i from by show hv H i + (if hq H i then _ else 0) = _; rw [b2_0 hc]; simp] at ih1
        exact ih1
      · rintro _ rfl
        refine ⟨nu_in (by omega) (by omega), ?_⟩
        rintro _ rfl
        rintro _ rfl
        rw [nI_clamp (by omega), hR.2.2.2.1 i hlt 3 (by omega), hR.2.2.2.1 i hlt 5 (by omega), nu_l (by omega), nu_l (by omega), nu_1]
        rw [show hv H (i + 1) = hv H i + lN (Hs H i 3) * lN (Hs H i 5) from by show hv H i + (if hq H i then _ else 0) = _; rw [b2_1 hc]; rfl] at ih1
        exact ih1
  exact key (Hh H 1) 0 (by omega)
/-- does a dealer sell an asked sale -/
def h_sells (H : hs_T) (x : Nat) : Bool := decide (0 < hu H (some x) none (Hh H 1))
theorem k_sells {x : Nat} (hx : x < 8) (hd : 4 ≤ d) (hR : cr_R v h H) (hW : hs_W H) (hQ : Q (Sum.inl (some (zI (b2 (h_sells H x))))) v) : gd_C g mX2_sellsAsked d 0 0 [zR 2 h, zI (nI x)] v Q := by
  have hle := hu_le (a := some x) (b := none) hW (Hh H 1) (Nat.le_refl _)
  have h24 := hW.2.1
  refine c_X2_sellsAsked hd (k_unitsOf (a := some x) (b := none) (fun y hy => by cases hy; exact hx) (fun y hy => by cases hy) (Nat.le_refl 3) hR hW ⟨fun hc => ?_, fun hc => ?_⟩)
  · rw [nu_I 0, nI_leI (by omega) (by omega)] at hc
    unfold h_sells at hQ
    rw [decide_eq_false (by omega)] at hQ
    exact hQ
  · rw [nu_I 0, nI_leI (by omega) (by omega)] at hc
    unfold h_sells at hQ
    rw [decide_eq_true (by omega)] at hQ
    exact hQ
theorem nu_lots {n l : Nat} (hn : n < 2 ^ 31) (h0 : 0 < l) (hl : l < 2 ^ 31) : nI n - (nI n - nI n / nI l * nI l) = nI (n - n % l) := by
  rw [pk_rem hn h0 hl, nu_sub (Nat.mod_le n l)]
theorem k_lots {n : Nat} (hn : n < 2 ^ 31) (hR : cr_R v h H) (hW : hs_W H) (hQ : Q (Sum.inl (some (zI (nI (n - n % Hh H 5))))) v) : gd_C g mX2_wholeLots d 0 0 [zR 2 h, zI (nI n)] v Q := by
  have hl := hW.2.2.2.2.2.1
  refine c_X2_wholeLots (Nat.zero_le _) ?_
  unfold wp_X2_wholeLots
  rw [show v.1 2 h 7 = nI (Hh H 5) from hR.1 5 (by omega)]
  refine ⟨fun _ => ⟨nI_ne0 (by omega) (by omega), ?_⟩, fun hc => absurd (by rw [nu_I 1]; exact nI_le (by omega) (by omega)) hc⟩
  rw [nu_lots hn (by omega) (by omega)]
  exact hQ
theorem k_deliverable {i : Nat} (hd : 3 ≤ d) (hR : cr_R v h H) (hW : hs_W H) (hi : i < Hh H 1) (hQ : Q (Sum.inl (some (zI (nI (h_can H i))))) v) : gd_C g mX2_deliverable d 0 0 [zR 2 h, zI (nI i)] v Q := by
  obtain ⟨s1, s2, s0, s3, s4, s5, s6⟩ := hW.2.2.2.2.2.2.2.2.1 i hi
  have h24 := hW.2.1
  have h8 := hW.1
  have hst := (hW.2.2.2.2.2.2.2.1 _ s1).1
  have hus := hW.used
  refine c_X2_deliverable hd ?_
  unfold wp_X2_deliverable
  rw [nI_clamp (by omega)]
  refine ⟨nu_in (by omega) (by omega), ?_⟩
  rintro _ rfl
  rw [hR.2.2.2.1 i hi 0 (by omega), nI_clamp (by omega), (hR.2.2.1 _ s1).1]
  refine ⟨nu_in (by omega) (by omega), nu_in (by omega) (by omega), ?_⟩
  rintro _ rfl
  rw [hR.2.2.2.1 i hi 5 (by omega)]
  unfold h_can at hQ
  refine ⟨fun hc => ?_, fun hc => ⟨nu_in (by omega) (by omega), ?_⟩⟩
  · rw [nI_ltI (by omega) (by omega)] at hc
    rw [if_neg (by omega)] at hQ
    exact k_lots (by omega) hR hW hQ
  · rw [nI_ltI (by omega) (by omega)] at hc
    rw [if_pos (by omega)] at hQ
    rintro _ rfl
    exact hQ
theorem k_penOf {i : Nat} (hR : cr_R v h H) (hW : hs_W H) (hi : i < Hh H 1) (hQ : Q (Sum.inl (some (zJ (h_pen H i)))) v) : gd_C g mX2_penaltyOf d 0 0 [zR 2 h, zI (nI i)] v Q := by
  obtain ⟨s1, s2, s0, s3, s4, s5, s6⟩ := hW.2.2.2.2.2.2.2.2.1 i hi
  have h24 := hW.2.1
  have hr := hW.2.2.2.2.1
  refine c_X2_penaltyOf (Nat.zero_le _) ?_
  unfold wp_X2_penaltyOf
  rw [nI_clamp (by omega)]
  refine ⟨nu_in (by omega) (by omega), ?_⟩
  rintro _ rfl
  refine ⟨nu_in (by omega) (by omega), ?_⟩
  rintro _ rfl
  rintro _ rfl
  refine ⟨by decide, ?_⟩
  rw [hR.2.2.2.1 i hi 5 (by omega), hR.2.2.2.1 i hi 3 (by omega), show v.1 2 h 6 = nI (Hh H 4) from hR.1 4 (by omega), nu_l (by omega), nu_l (by omega), nu_l (by omega)]
  exact hQ
end CC
