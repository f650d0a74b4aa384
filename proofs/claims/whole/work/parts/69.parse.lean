/-! TEXT, the class's side: what is next, numbers, the rule -/
abbrev rY : Type := (Nat × Nat) ⊕ Nat
def yb (y : rY) (f : Nat → rY) : rY := match y with
  | Sum.inl e => Sum.inl e
  | Sum.inr p => f p
def kP (v : gd_D) (T : Nat → Int32) (n m : Nat) (y : rY) : Prop := tok_R v T n m ∧ ∃ k, k ≤ m ∧ v.1 7 0 11 = nI k ∧ match y with
  | Sum.inl e => 1 ≤ e.1 ∧ e.1 ≤ 4 ∧ v.1 7 0 3 = nI e.1 ∧ v.1 7 0 4 = nI e.2
  | Sum.inr p => v.1 7 0 3 = 0 ∧ v.1 7 0 4 = -1 ∧ PS T n k = p
def fA (k i j : Nat) : Prop := k = 7 ∧ i = 0 ∧ (j = 3 ∨ j = 4 ∨ j = 11)
def fQ (k i j : Nat) : Prop := fA k i j ∨ (k = 7 ∧ i = 0 ∧ j = 9) ∨ (k = 35 ∧ i = 0)
def kC (v : gd_D) (L : List Nat) : Prop := v.1 7 0 9 = nI L.length ∧ ∀ i, i < L.length → v.1 35 0 i = cr_s (L.getD i 0)
def kX (v : gd_D) (T : Nat → Int32) (n m : Nat) (x : rX) : Prop := match x with
  | Sum.inl e => kP v T n m (Sum.inl e)
  | Sum.inr q => kP v T n m (Sum.inr q.1) ∧ kC v q.2
theorem fA_Q : ∀ k i j, fA k i j → fQ k i j := fun _ _ _ h => Or.inl h
def pNum (T : Nat → Int32) (n a hx : Nat) (o : Option Nat) (p : Nat) : (Nat × Nat) ⊕ (Nat × Nat) := if tk T n p = 2 then (if a ≤ nm T n p ∧ nm T n p < hx ∧ ¬ o = some (nm T n p) then Sum.inr (nm T n p, nx T n p) else Sum.inl (2, p)) else Sum.inl (1, p)
theorem tk_lt {T : Nat → Int32} {n p k : Nat} (h1 : tk T n p = k) (h2 : ¬ k = 0) : p < n := by
  apply Nat.lt_of_not_le
  intro h3
  unfold tk at h1
  rw [if_pos h3] at h1
  exact h2 h1.symm
theorem tk_le {T : Nat → Int32} {n p : Nat} : tk T n p ≤ 3 := by
  unfold tk
  split
  · omega
  · split
    · omega
    · split <;> omega
section KP
variable {g : ab_E} {d : Nat} {v : gd_D} {Q : ab_O → gd_D → Prop} {T : Nat → Int32} {n m : Nat}
theorem tok_R.k {X : Nat → Nat → Nat → Prop} {v' : gd_D} (h : tok_R v T n m) (hf : fr X v v') (hX : ∀ j, ¬ X 32 0 j ∧ ¬ X 33 0 j ∧ ¬ X 34 0 j) (hX2 : ¬ X 7 0 10) : tok_R v' T n m := by
  obtain ⟨a1, a2, a3, a4, a5, a6⟩ := h
  refine ⟨a1, a2, a3, a4, by rw [(hf.1 7 0 10 hX2).1]; exact a5, fun q hq => ?_⟩
  unfold tok_1
  rw [hf.I (fun j => (hX j).1), hf.I (fun j => (hX j).2.1), hf.I (fun j => (hX j).2.2)]
  exact a6 q hq
theorem tok_R.A {v' : gd_D} (h : tok_R v T n m) (hf : fr fA v v') : tok_R v' T n m := h.k hf (fun j => ⟨fun q => absurd q.1 (by decide), fun q => absurd q.1 (by decide), fun q => absurd q.1 (by decide)⟩) (fun q => by have := q.2.2; omega)
theorem kC.A {v' : gd_D} {L : List Nat} (h : kC v L) (hf : fr fA v v') : kC v' L := ⟨by rw [(hf.1 7 0 9 (fun q => by have := q.2.2; omega)).1]; exact h.1, by rw [hf.I (fun j q => absurd q.1 (by decide))]; exact h.2⟩
/-- the fault's field tells -/
theorem kP.f {y : rY} (h : kP v T n m y) : (v.1 7 0 3 = 0 ↔ ∃ p, y = Sum.inr p) := by
  obtain ⟨-, k, -, -, h3⟩ := h
  cases y with
  | inl e =>
    obtain ⟨e1, e2, e3, -⟩ := h3
    rw [e3]
    exact ⟨fun q => absurd q (nI_ne0 e1 (by omega)), fun ⟨p, q⟩ => by cases q⟩
  | inr p => exact ⟨fun _ => ⟨p, rfl⟩, fun _ => h3.1⟩
theorem k_refuse {w : Nat} (h1 : 1 ≤ w) (h4 : w ≤ 4) {y : rY} (hP : kP v T n m y) (hQ : ∀ v', fr fA v v' → kP v' T n m (yb y (fun p => Sum.inl (w, p))) → Q (Sum.inl none) v') : gd_C g mX7_refuse d 0 0 [zR 7 0, zI (nI w)] v Q := by
  have hP' := hP
  obtain ⟨ht, k, hk, hk2, h3⟩ := hP
  have hm := ht.2.1
  have hn := ht.1
  cases y with
  | inl e =>
    obtain ⟨e1, e2, e3, e4⟩ := h3
    exact c_X7_refuse (Nat.zero_le _) ⟨fun _ => hQ v fr.rf hP', fun q => absurd (e3.symm.trans q) (nI_ne0 e1 (by omega))⟩
  | inr p =>
    obtain ⟨e3, e4, e5⟩ := h3
    refine c_X7_refuse (Nat.zero_le _) ⟨fun q => absurd e3 q, fun _ => ?_⟩
    rintro _ rfl
    rw [sI_ne (by omega), hk2, nI_clamp (by omega)]
    refine ⟨nu_in (by omega) (by omega), ?_⟩
    rintro _ rfl
    have f2 : fr fA v (gd_sI (gd_sI v 7 0 3 (nI w)) 7 0 4 ((gd_sI v 7 0 3 (nI w)).1 33 0 k)) := (fr.sI ⟨rfl, rfl, Or.inl rfl⟩).tr (fr.sI ⟨rfl, rfl, Or.inr (Or.inl rfl)⟩)
    refine hQ _ f2 ⟨ht.A f2, k, hk, ?_, h1, h4, ?_, ?_⟩
    · rw [sI_ne (by omega), sI_ne (by omega)]; exact hk2
    · rw [sI_ne (by omega), sI_at]
    · rw [sI_at, sI_ne (by omega), (ht.2.2.2.2.2 k hk).2.1, e5]
theorem k_advance {y : rY} (hP : kP v T n m y) (hp : ∀ p, y = Sum.inr p → p < n) (hQ : ∀ v', fr fA v v' → kP v' T n m (yb y (fun p => Sum.inr (nx T n p))) → Q (Sum.inl none) v') : gd_C g mX7_advance d 0 0 [zR 7 0] v Q := by
  have hP' := hP
  obtain ⟨ht, k, hk, hk2, h3⟩ := hP
  have hm := ht.2.1
  have hn := ht.1
  cases y with
  | inl e =>
    obtain ⟨e1, e2, e3, e4⟩ := h3
    exact c_X7_advance (Nat.zero_le _) ⟨fun _ => hQ v fr.rf hP', fun q => absurd (e3.symm.trans q) (nI_ne0 e1 (by omega))⟩
  | inr p =>
    obtain ⟨e3, e4, e5⟩ := h3
    have hlt := hp p rfl
    have hkm : k < m := by
      apply Nat.lt_of_not_le
      intro q
      have e : k = m := by omega
      subst e
      rw [ht.2.2.1] at e5
      omega
    refine c_X7_advance (Nat.zero_le _) ⟨fun q => absurd e3 q, fun _ => ?_⟩
    rw [ht.2.2.2.2.1, hk2, nI_pred, nI_leI (by omega) (by omega)]
    refine ⟨fun q => absurd q (by omega), fun _ => ?_⟩
    rintro _ rfl
    rw [nu_1]
    have f2 : fr fA v (gd_sI v 7 0 11 (nI (k + 1))) := fr.sI ⟨rfl, rfl, Or.inr (Or.inr rfl)⟩
    refine hQ _ f2 ⟨ht.A f2, k + 1, by omega, sI_at, ?_, ?_, ?_⟩
    · rw [sI_ne (by omega)]; exact e3
    · rw [sI_ne (by omega)]; exact e4
    · show PS T n (k + 1) = nx T n p
      rw [← e5]
      exact if_pos (by rw [e5]; exact hlt)
def yN (T : Nat → Int32) (n : Nat) (c : Int32) (y : rY) : Bool := match y with
  | Sum.inl _ => false
  | Sum.inr p => decide (p < n ∧ T p = c)
theorem k_isNext {c : Int32} (hcL : isL c = false) (hcN : isN c = false) {y : rY} (hP : kP v T n m y) (hQ : Q (Sum.inl (some (zI (b2 (yN T n c y))))) v) : gd_C g mX7_isNext d 0 0 [zR 7 0, zI c] v Q := by
  obtain ⟨ht, k, hk, hk2, h3⟩ := hP
  have hm := ht.2.1
  have hn := ht.1
  cases y with
  | inl e =>
    obtain ⟨e1, e2, e3, e4⟩ := h3
    exact c_X7_isNext (Nat.zero_le _) ⟨fun _ => hQ, fun q => absurd (e3.symm.trans q) (nI_ne0 e1 (by omega))⟩
  | inr p =>
    obtain ⟨e3, e4, e5⟩ := h3
    obtain ⟨t1, t2, t3⟩ := ht.2.2.2.2.2 k hk
    rw [e5] at t1 t3
    have hk3 := tk_le (T := T) (n := n) (p := p)
    unfold yN at hQ
    have hQ : Q (Sum.inl (some (zI (b2 (decide (p < n ∧ T p = c)))))) v := hQ
    refine c_X7_isNext (Nat.zero_le _) ⟨fun q => absurd e3 q, fun _ => ?_⟩
    rw [hk2, nI_clamp (by omega), t1, t3, show (3 : Int32) = nI 3 from rfl, nI_eq (by omega) (by omega)]
    refine ⟨nu_in (by omega) (by omega), fun q => ?_, fun q => ⟨nu_in (by omega) (by omega), ?_⟩⟩
    · rw [decide_eq_false (fun z => q ?_)] at hQ
      · exact hQ
      · unfold tk
        rw [if_neg (by omega), z.2, hcL, if_neg Bool.false_ne_true, hcN, if_neg Bool.false_ne_true]
    · have hlt := tk_lt q (by omega)
      have etw : tw T n p = T p := by
        unfold tk at q
        unfold tw
        rw [if_neg (by omega)] at q ⊢
        cases h1 : isL (T p) with
        | true => rw [h1, if_pos rfl] at q; omega
        | false =>
          rw [h1, if_neg Bool.false_ne_true] at q
          rw [if_neg Bool.false_ne_true]
          cases h2 : isN (T p) with
          | true => rw [h2, if_pos rfl] at q; omega
          | false => rw [if_neg Bool.false_ne_true]
      rw [etw]
      refine ⟨fun z => ?_, fun z => ?_⟩
      · rw [decide_eq_false (fun y => z y.2)] at hQ; exact hQ
      · rw [decide_eq_true ⟨hlt, z⟩] at hQ; exact hQ
def yG (T : Nat → Int32) (n : Nat) (c : Int32) (p : Nat) : rY := if p < n ∧ T p = c then Sum.inr (nx T n p) else Sum.inl (1, p)
theorem k_take {c : Int32} (hcL : isL c = false) (hcN : isN c = false) {y : rY} (hd : 3 ≤ d) (hP : kP v T n m y) (hQ : ∀ v', fr fA v v' → kP v' T n m (yb y (yG T n c)) → Q (Sum.inl none) v') : gd_C g mX7_take d 0 0 [zR 7 0, zI c] v Q := by
  refine c_X7_take hd (k_isNext hcL hcN hP ?_)
  rw [gd_rI_at]
  refine ⟨fun z => ?_, fun z => ?_⟩
  · refine k_refuse (w := 1) (by omega) (by omega) hP (fun v1 f1 P1 => ?_)
    rw [gd_rV_at]
    refine hQ v1 f1 ?_
    cases y with
    | inl e => exact P1
    | inr p =>
      have h := b2_0 z
      have e : yb (Sum.inr p) (yG T n c) = Sum.inl (1, p) := if_neg (of_decide_eq_false h)
      rw [e]; exact P1
  · have h := b2_1 z
    refine k_advance hP (fun p e => ?_) (fun v1 f1 P1 => ?_)
    · subst e
      have h : decide (p < n ∧ T p = c) = true := h
      exact (of_decide_eq_true h).1
    · rw [gd_rV_at]
      refine hQ v1 f1 ?_
      cases y with
      | inl e => exact P1
      | inr p =>
        have h : decide (p < n ∧ T p = c) = true := h
        have e : yb (Sum.inr p) (yG T n c) = Sum.inr (nx T n p) := if_pos (of_decide_eq_true h)
        rw [e]; exact P1
def yNum (T : Nat → Int32) (n a hx : Nat) (o : Option Nat) (y : rY) : (Nat × Nat) ⊕ (Nat × Nat) := match y with
  | Sum.inl e => Sum.inl e
  | Sum.inr p => pNum T n a hx o p
theorem k_takeNumber {a hx : Nat} {o : Option Nat} {hi ex : Int32} (ha : a ≤ 1) (hhi : hi.toInt = (hx : Int) - 1) (ho : ∀ z, o = some z → z < 1000) {y : rY} (hd : 3 ≤ d) (hP : kP v T n m y) (hexl : ∀ p, y = Sum.inr p → ex = oi o) (h0 : ∀ v' e, yNum T n a hx o y = Sum.inl e → fr fA v v' → kP v' T n m (Sum.inl e) → Q (Sum.inl (some (zI (-1)))) v') (h1 : ∀ v' w q, yNum T n a hx o y = Sum.inr (w, q) → fr fA v v' → kP v' T n m (Sum.inr q) → Q (Sum.inl (some (zI (nI w)))) v') : gd_C g mX7_takeNumber d 0 0 [zR 7 0, zI (nI a), zI hi, zI ex] v Q := by
  have hP' := hP
  obtain ⟨ht, k, hk, hk2, h3⟩ := hP
  have hm := ht.2.1
  have hn := ht.1
  cases y with
  | inl e =>
    obtain ⟨e1, e2, e3, e4⟩ := h3
    exact c_X7_takeNumber hd ⟨fun q => absurd (e3.symm.trans q) (nI_ne0 e1 (by omega)), fun _ => h0 v e rfl fr.rf hP'⟩
  | inr p =>
    obtain ⟨e3, e4, e5⟩ := h3
    obtain ⟨t1, t2, t3⟩ := ht.2.2.2.2.2 k hk
    rw [e5] at t1 t3
    have hk3 := tk_le (T := T) (n := n) (p := p)
    have hnm := nm_le (T := T) (n := n) (p := p)
    have hex2 := hexl p rfl
    subst hex2
    have ref : ∀ w, 1 ≤ w → w ≤ 4 → pNum T n a hx o p = Sum.inl (w, p) → gd_C g mX7_refuse 2 0 0 [zR 7 0, zI (nI w)] v (gd_rV (fun v1 => Q (Sum.inl (some (zI (-1)))) v1) (fun E v9 => Q (Sum.inr E) v9)) := by
      intro w w1 w4 he
      exact k_refuse w1 w4 hP' (fun v1 f1 P1 => h0 v1 (w, p) he f1 P1)
    refine c_X7_takeNumber hd ⟨fun _ => ?_, fun q => absurd e3 q⟩
    rw [hk2, nI_clamp (by omega), t1, t3, show (2 : Int32) = nI 2 from rfl, nI_eq (by omega) (by omega)]
    refine ⟨nu_in (by omega) (by omega), nu_in (by omega) (by omega), fun q => ?_, fun q => ref 1 (by omega) (by omega) (if_neg q)⟩
    have hlt := tk_lt q (by omega)
    have etw : tw T n p = nI (nm T n p) := by
      unfold tk at q
      unfold tw
      rw [if_neg (by omega)] at q ⊢
      cases h1 : isL (T p) with
      | true => rw [h1, if_pos rfl] at q; omega
      | false =>
        rw [h1, if_neg Bool.false_ne_true] at q
        rw [if_neg Bool.false_ne_true]
        cases h2 : isN (T p) with
        | true => rw [if_pos rfl]
        | false => rw [h2, if_neg Bool.false_ne_true] at q; omega
    rw [etw]
    have bad : ¬ (a ≤ nm T n p ∧ nm T n p < hx ∧ ¬ o = some (nm T n p)) → wp_X7_takeNumber_58 g d v Q := fun z => ref 2 (by omega) (by omega) (by unfold pNum; rw [if_pos q, if_neg z])
    refine ⟨fun z => bad (fun y => ?_), fun z => ⟨fun z2 => bad (fun y => ?_), fun z2 => ⟨fun z3 => ?_, fun z3 => bad (fun y => ?_)⟩⟩⟩
    · rw [nI_ltI (by omega) (by omega)] at z; omega
    · rw [Int32.lt_iff_toInt_lt, hhi, nI_toInt (by omega)] at z2; omega
    · rw [nI_ltI (by omega) (by omega)] at z
      rw [Int32.lt_iff_toInt_lt, hhi, nI_toInt (by omega)] at z2
      have good : a ≤ nm T n p ∧ nm T n p < hx ∧ ¬ o = some (nm T n p) := ⟨by omega, by omega, fun e => z3 (by rw [e]; rfl)⟩
      refine k_advance hP' (fun p' e => by cases e; exact hlt) (fun v1 f1 P1 => h1 v1 (nm T n p) (nx T n p) (by show pNum T n a hx o p = _; unfold pNum; rw [if_pos q, if_pos good]) f1 P1)
    · cases o with
      | none => exact nu_m1 (by omega) z3
      | some z => exact y.2.2 (by rw [nu_eq (by omega) (by have := ho z rfl; omega) z3])
end KP
