/-! numbers -/
theorem nu_I (n : Nat) : (OfNat.ofNat n : Int32) = nI n := rfl
theorem nu_J (n : Nat) : (OfNat.ofNat n : Int64) = lN n := rfl
theorem nu_l {n : Nat} (h : n < 2 ^ 31) : (nI n).toInt64 = lN n := nI_l h
theorem nu_in {n N : Nat} (h : n < N) (hN : N < 2 ^ 31) : vp_in (nI n) N := vp_in_nI h hN
theorem nu_s (s w : Nat) : (57 : Int32) + 9 * nI s + nI w = nI (57 + 9 * s + w) := by
  rw [nu_I 57, nu_I 9, pk_mul, nI_add, nI_add]
theorem nu_d (s w : Nat) : (9 : Int32) + 6 * nI s + nI w = nI (9 + 6 * s + w) := by
  rw [nu_I 9, nu_I 6, pk_mul, nI_add, nI_add]
theorem nu_1 (n : Nat) : nI n + 1 = nI (n + 1) := nI_1 n
theorem nu_m1 {n : Nat} (h : n < 2 ^ 31) : ¬ nI n = (-1) := by
  intro e
  have h1 := congrArg Int32.toInt e
  rw [nI_toInt h] at h1
  have h2 : (-1 : Int32).toInt = -1 := by decide
  omega
/-- what a choice of dealers (none: any) is as an int -/
def oi : Option Nat → Int32
  | none => -1
  | some n => nI n
/-- a truth as an int -/
def b2 (b : Bool) : Int32 := if b then 1 else 0
theorem b2_0 {b : Bool} (h : b2 b = 0) : b = false := by cases b; rfl; exact absurd h (by decide)
theorem b2_1 {b : Bool} (h : ¬ b2 b = 0) : b = true := by cases b; exact absurd rfl h; rfl
theorem b2_n (b : Bool) : narrow .boolean (.int (b2 b)) = .int (b2 b) := by cases b <;> rfl
/-! A HOUSE: numbers (0 dealers, 1 sales, 2 day, 3 mark, 4 rate, 5 lot, 6 buyin), dealers' numbers (0 stock, 5 bought), dealers' money (1 cash, 2 paid, 3 got, 4 closing), sales (as of() numbers them), outside, the rule -/
abbrev hs_T : Type := (Nat → Nat) × (Nat → Nat → Nat) × (Nat → Nat → Int64) × (Nat → Nat → Nat) × Int64 × List Nat
abbrev Hh (H : hs_T) (j : Nat) : Nat := H.1 j
abbrev Hd (H : hs_T) (i j : Nat) : Nat := H.2.1 i j
abbrev Hj (H : hs_T) (i j : Nat) : Int64 := H.2.2.1 i j
abbrev Hs (H : hs_T) (i j : Nat) : Nat := H.2.2.2.1 i j
abbrev Ho (H : hs_T) : Int64 := H.2.2.2.2.1
abbrev Hc (H : hs_T) : List Nat := H.2.2.2.2.2
/-- units that are no longer open -/
def hs_used (H : hs_T) : Nat → Nat
  | 0 => 0
  | n + 1 => hs_used H n + (Hs H n 2 - Hs H n 5)
/-- a rule's code: how many values wait behind each step (at most 16), one at the end -/
def rp_dep : List Nat → Nat → Option Nat
  | [], n => some n
  | c :: l, n => if c < 2000000 ∨ 3000000 ≤ c then (if n < 16 then rp_dep l (n + 1) else none) else if c = 2000110 then (if 1 ≤ n then rp_dep l n else none) else (if 2 ≤ n then rp_dep l (n - 1) else none)
def rp_step (c : Nat) : Prop := c ≤ 9999 ∨ (3000000 ≤ c ∧ c ≤ 3000006) ∨ c = 2000042 ∨ c = 2000043 ∨ c = 2000045 ∨ c = 2000110
def rp_ok (l : List Nat) : Prop := l.length ≤ 500 ∧ (∀ c ∈ l, rp_step c) ∧ (l = [] ∨ rp_dep l 0 = some 1)
/-- one sale as it must be -/
def hs_S (H : hs_T) (i : Nat) : Prop := Hs H i 0 < Hh H 0 ∧ Hs H i 1 < Hh H 0 ∧ Hs H i 0 ≠ Hs H i 1 ∧ (1 ≤ Hs H i 2 ∧ Hs H i 2 ≤ 1000) ∧ (1 ≤ Hs H i 3 ∧ Hs H i 3 ≤ 10000) ∧ Hs H i 4 ≤ 999 ∧ Hs H i 5 + Hs H i 6 + Hs H i 7 + Hs H i 8 ≤ Hs H i 2
def hs_W (H : hs_T) : Prop :=
  Hh H 0 ≤ 8 ∧ Hh H 1 ≤ 24 ∧ Hh H 2 ≤ 5030 ∧ (1 ≤ Hh H 3 ∧ Hh H 3 ≤ 10000) ∧ Hh H 4 ≤ 999 ∧ (1 ≤ Hh H 5 ∧ Hh H 5 ≤ 100) ∧ Hh H 6 ≤ 30 ∧
  (∀ i, i < Hh H 0 → Hd H i 0 ≤ 100000 + hs_used H (Hh H 1) ∧ Hd H i 5 ≤ hs_used H (Hh H 1)) ∧ (∀ i, i < Hh H 1 → hs_S H i) ∧ rp_ok (Hc H)
theorem hs_used_le {H : hs_T} : ∀ n, (∀ i, i < n → Hs H i 2 ≤ 1000) → hs_used H n ≤ 1000 * n
  | 0, _ => Nat.le_refl 0
  | n + 1, h => by
    have h1 := hs_used_le n (fun i hi => h i (by omega))
    have h2 := h n (by omega)
    show hs_used H n + (Hs H n 2 - Hs H n 5) ≤ 1000 * (n + 1)
    omega
theorem hs_W.used {H : hs_T} (h : hs_W H) : hs_used H (Hh H 1) ≤ 24000 := by
  have h1 := hs_used_le (H := H) (Hh H 1) (fun i hi => (h.2.2.2.2.2.2.2.2.1 i hi).2.2.2.1.2)
  have h2 := h.2.1
  omega
/-- a row of the reference holds the house -/
def rm_R (f : Nat → Int64) (H : hs_T) : Prop :=
  (∀ j, j < 7 → f j = lN (Hh H j)) ∧ f 7 = lN (Hc H).length ∧ f 8 = Ho H ∧
  (∀ i, i < Hh H 0 → f (9 + 6 * i + 0) = lN (Hd H i 0) ∧ f (9 + 6 * i + 5) = lN (Hd H i 5) ∧ ∀ j, 1 ≤ j → j ≤ 4 → f (9 + 6 * i + j) = Hj H i j) ∧
  (∀ i, i < Hh H 1 → ∀ j, j < 9 → f (57 + 9 * i + j) = lN (Hs H i j)) ∧ ∀ k, k < (Hc H).length → f (273 + k) = lN ((Hc H).getD k 0)
/-- is a sale asked -/
def hq (H : hs_T) (i : Nat) : Bool := decide (Hs H i 4 ≤ Hh H 2) && decide (0 < Hs H i 5)
/-- fails, and their open units by seller and buyer, of the first n sales -/
def hf (H : hs_T) : Nat → Nat
  | 0 => 0
  | n + 1 => hf H n + if hq H n then 1 else 0
def hm (a : Option Nat) (x : Nat) : Bool := match a with
  | none => true
  | some y => decide (x = y)
def hu (H : hs_T) (a b : Option Nat) : Nat → Nat
  | 0 => 0
  | n + 1 => hu H a b n + if hq H n && (hm a (Hs H n 0) && hm b (Hs H n 1)) then Hs H n 5 else 0
theorem hf_le (H : hs_T) : ∀ n, hf H n ≤ n
  | 0 => Nat.le_refl 0
  | n + 1 => by
    have := hf_le H n
    show hf H n + _ ≤ _
    split <;> omega
theorem hu_le {H : hs_T} {a b : Option Nat} (hW : hs_W H) : ∀ n, n ≤ Hh H 1 → hu H a b n ≤ 1000 * n
  | 0, _ => Nat.le_refl 0
  | n + 1, h => by
    have h1 := hu_le hW (a := a) (b := b) n (by omega)
    have h2 := hW.2.2.2.2.2.2.2.2.1 n (by omega)
    have h3 := h2.2.2.2.1.2
    have h4 := h2.2.2.2.2.2.2
    show hu H a b n + _ ≤ _
    split <;> omega
/-- changes are within X; nothing else of the world moves -/
def fr (X : Nat → Nat → Nat → Prop) (v v' : gd_D) : Prop := (∀ k i j, ¬ X k i j → v'.1 k i j = v.1 k i j ∧ v'.2.1 k i j = v.2.1 k i j) ∧ v'.2.2 = v.2.2
theorem fr.rf {X : Nat → Nat → Nat → Prop} {v : gd_D} : fr X v v := ⟨fun _ _ _ _ => ⟨rfl, rfl⟩, rfl⟩
theorem fr.tr {X : Nat → Nat → Nat → Prop} {v v1 v2 : gd_D} (h : fr X v v1) (h2 : fr X v1 v2) : fr X v v2 := ⟨fun k i j hx => ⟨(h2.1 k i j hx).1.trans (h.1 k i j hx).1, (h2.1 k i j hx).2.trans (h.1 k i j hx).2⟩, h2.2.trans h.2⟩
theorem fr.wk {X Y : Nat → Nat → Nat → Prop} {v v1 : gd_D} (h : fr X v v1) (hY : ∀ k i j, X k i j → Y k i j) : fr Y v v1 := ⟨fun k i j hx => h.1 k i j (fun q => hx (hY k i j q)), h.2⟩
theorem fr.sI {X : Nat → Nat → Nat → Prop} {v : gd_D} {k i j : Nat} {x : Int32} (h : X k i j) : fr X v (gd_sI v k i j x) := ⟨fun a b c hx => ⟨if_neg (fun q => hx (by rw [q.1, q.2.1, q.2.2]; exact h)), rfl⟩, rfl⟩
theorem fr.sJ {X : Nat → Nat → Nat → Prop} {v : gd_D} {k i j : Nat} {x : Int64} (h : X k i j) : fr X v (gd_sJ v k i j x) := ⟨fun a b c hx => ⟨rfl, if_neg (fun q => hx (by rw [q.1, q.2.1, q.2.2]; exact h))⟩, rfl⟩
theorem sI_at {v : gd_D} {k i j : Nat} {x : Int32} : (gd_sI v k i j x).1 k i j = x := if_pos ⟨rfl, rfl, rfl⟩
theorem sI_ne {v : gd_D} {k i j a b c : Nat} {x : Int32} (h : ¬ (a = k ∧ b = i ∧ c = j)) : (gd_sI v k i j x).1 a b c = v.1 a b c := if_neg h
theorem sJ_at {v : gd_D} {k i j : Nat} {x : Int64} : (gd_sJ v k i j x).2.1 k i j = x := if_pos ⟨rfl, rfl, rfl⟩
theorem sJ_ne {v : gd_D} {k i j a b c : Nat} {x : Int64} (h : ¬ (a = k ∧ b = i ∧ c = j)) : (gd_sJ v k i j x).2.1 a b c = v.2.1 a b c := if_neg h
theorem sI_J {v : gd_D} {k i j : Nat} {x : Int32} : (gd_sI v k i j x).2 = v.2 := rfl
theorem sJ_I {v : gd_D} {k i j : Nat} {x : Int64} : (gd_sJ v k i j x).1 = v.1 := rfl
