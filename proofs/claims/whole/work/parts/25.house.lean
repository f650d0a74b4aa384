/-! SINGLE CHANGES OF A HOUSE, on both sides -/
def hsS (H : hs_T) (i j x : Nat) : hs_T := (H.1, H.2.1, H.2.2.1, fun a b => if a = i ∧ b = j then x else H.2.2.2.1 a b, H.2.2.2.2)
def hsD (H : hs_T) (i j x : Nat) : hs_T := (H.1, fun a b => if a = i ∧ b = j then x else H.2.1 a b, H.2.2)
def hsJ (H : hs_T) (i j : Nat) (x : Int64) : hs_T := (H.1, H.2.1, fun a b => if a = i ∧ b = j then x else H.2.2.1 a b, H.2.2.2)
def hsO (H : hs_T) (x : Int64) : hs_T := (H.1, H.2.1, H.2.2.1, H.2.2.2.1, x, H.2.2.2.2.2)
def hsH (H : hs_T) (j x : Nat) : hs_T := (fun a => if a = j then x else H.1 a, H.2)
theorem hsS_at {H : hs_T} {i j x : Nat} : Hs (hsS H i j x) i j = x := if_pos ⟨rfl, rfl⟩
theorem hsS_ne {H : hs_T} {i j x a b : Nat} (h : ¬ (a = i ∧ b = j)) : Hs (hsS H i j x) a b = Hs H a b := if_neg h
theorem hsD_at {H : hs_T} {i j x : Nat} : Hd (hsD H i j x) i j = x := if_pos ⟨rfl, rfl⟩
theorem hsD_ne {H : hs_T} {i j x a b : Nat} (h : ¬ (a = i ∧ b = j)) : Hd (hsD H i j x) a b = Hd H a b := if_neg h
theorem hsJ_at {H : hs_T} {i j : Nat} {x : Int64} : Hj (hsJ H i j x) i j = x := if_pos ⟨rfl, rfl⟩
theorem hsJ_ne {H : hs_T} {i j a b : Nat} {x : Int64} (h : ¬ (a = i ∧ b = j)) : Hj (hsJ H i j x) a b = Hj H a b := if_neg h
theorem hsJ_com {H : hs_T} {i j a b : Nat} {x y : Int64} (h : ¬ (a = i ∧ b = j)) : hsJ (hsJ H i j x) a b y = hsJ (hsJ H a b y) i j x := by
  show (H.1, H.2.1, _, H.2.2.2) = (H.1, H.2.1, _, H.2.2.2)
  congr 3
  funext p q
  by_cases h1 : p = a ∧ q = b
  · rw [if_pos h1]
    show y = if p = i ∧ q = j then x else if p = a ∧ q = b then y else _
    rw [if_neg (fun z => h ⟨h1.1.symm.trans z.1, h1.2.symm.trans z.2⟩), if_pos h1]
  · rw [if_neg h1]
    show (if p = i ∧ q = j then x else H.2.2.1 p q) = if p = i ∧ q = j then x else if p = a ∧ q = b then y else H.2.2.1 p q
    rw [if_neg h1]
-- the reference's rows
section HR
variable {f : Nat → Int64} {H : hs_T}
theorem rm_sS {i j x : Nat} (h : rm_R f H) (h8 : Hh H 0 ≤ 8) (h24 : Hh H 1 ≤ 24) (hi : i < Hh H 1) (hj : j < 9) : rm_R (vp_updL f (57 + 9 * i + j) (lN x)) (hsS H i j x) := by
  obtain ⟨a1, a2, a3, a4, a5, a6⟩ := h
  refine ⟨fun k hk => ?_, ?_, ?_, fun k hk => ?_, fun k hk q hq => ?_, fun k hk => ?_⟩
  · rw [pk_uLn (by omega)]; exact a1 k hk
  · rw [pk_uLn (by omega)]; exact a2
  · rw [pk_uLn (by omega)]; exact a3
  · have hk' : k < Hh H 0 := hk
    refine ⟨?_, ?_, fun q h1 h2 => ?_⟩
    · rw [pk_uLn (by omega)]; exact (a4 k hk).1
    · rw [pk_uLn (by omega)]; exact (a4 k hk).2.1
    · rw [pk_uLn (by omega)]; exact (a4 k hk).2.2 q h1 h2
  · by_cases e : k = i ∧ q = j
    · obtain ⟨rfl, rfl⟩ := e
      rw [pk_uLs, hsS_at]
    · have hk' : k < Hh H 1 := hk
      rw [pk_uLn (by omega), hsS_ne e]; exact a5 k hk q hq
  · rw [pk_uLn (by omega)]; exact a6 k hk
theorem rm_sD {i j x : Nat} (h : rm_R f H) (h8 : Hh H 0 ≤ 8) (hi : i < Hh H 0) (hj : j = 0 ∨ j = 5) : rm_R (vp_updL f (9 + 6 * i + j) (lN x)) (hsD H i j x) := by
  obtain ⟨a1, a2, a3, a4, a5, a6⟩ := h
  refine ⟨fun k hk => ?_, ?_, ?_, fun k hk => ?_, fun k hk q hq => ?_, fun k hk => ?_⟩
  · rw [pk_uLn (by omega)]; exact a1 k hk
  · rw [pk_uLn (by omega)]; exact a2
  · rw [pk_uLn (by omega)]; exact a3
  · have hk' : k < Hh H 0 := hk
    refine ⟨?_, ?_, fun q h1 h2 => ?_⟩
    · by_cases e : k = i ∧ 0 = j
      · obtain ⟨rfl, rfl⟩ := e
        rw [pk_uLs, hsD_at]
      · rw [pk_uLn (by omega), hsD_ne e]; exact (a4 k hk).1
    · by_cases e : k = i ∧ 5 = j
      · obtain ⟨rfl, rfl⟩ := e
        rw [pk_uLs, hsD_at]
      · rw [pk_uLn (by omega), hsD_ne e]; exact (a4 k hk).2.1
    · rw [pk_uLn (by omega)]; exact (a4 k hk).2.2 q h1 h2
  · rw [pk_uLn (by omega)]; exact a5 k hk q hq
  · rw [pk_uLn (by omega)]; exact a6 k hk
theorem rm_sJ {i j : Nat} {x : Int64} (h : rm_R f H) (h8 : Hh H 0 ≤ 8) (hi : i < Hh H 0) (h1 : 1 ≤ j) (h4 : j ≤ 4) : rm_R (vp_updL f (9 + 6 * i + j) x) (hsJ H i j x) := by
  obtain ⟨a1, a2, a3, a4, a5, a6⟩ := h
  refine ⟨fun k hk => ?_, ?_, ?_, fun k hk => ?_, fun k hk q hq => ?_, fun k hk => ?_⟩
  · rw [pk_uLn (by omega)]; exact a1 k hk
  · rw [pk_uLn (by omega)]; exact a2
  · rw [pk_uLn (by omega)]; exact a3
  · have hk' : k < Hh H 0 := hk
    refine ⟨?_, ?_, fun q q1 q2 => ?_⟩
    · rw [pk_uLn (by omega)]; exact (a4 k hk).1
    · rw [pk_uLn (by omega)]; exact (a4 k hk).2.1
    · by_cases e : k = i ∧ q = j
      · obtain ⟨rfl, rfl⟩ := e
        rw [pk_uLs, hsJ_at]
      · rw [pk_uLn (by omega), hsJ_ne e]; exact (a4 k hk).2.2 q q1 q2
  · rw [pk_uLn (by omega)]; exact a5 k hk q hq
  · rw [pk_uLn (by omega)]; exact a6 k hk
theorem rm_sO {x : Int64} (h : rm_R f H) : rm_R (vp_updL f 8 x) (hsO H x) := by
  obtain ⟨a1, a2, a3, a4, a5, a6⟩ := h
  refine ⟨fun k hk => ?_, ?_, ?_, fun k hk => ?_, fun k hk q hq => ?_, fun k hk => ?_⟩
  · rw [pk_uLn (by omega)]; exact a1 k hk
  · rw [pk_uLn (by omega)]; exact a2
  · rw [pk_uLs]; rfl
  · refine ⟨?_, ?_, fun q h1 h2 => ?_⟩
    · rw [pk_uLn (by omega)]; exact (a4 k hk).1
    · rw [pk_uLn (by omega)]; exact (a4 k hk).2.1
    · rw [pk_uLn (by omega)]; exact (a4 k hk).2.2 q h1 h2
  · rw [pk_uLn (by omega)]; exact a5 k hk q hq
  · rw [pk_uLn (by omega)]; exact a6 k hk
theorem rm_sH {j x : Nat} (h : rm_R f H) (h2 : 2 ≤ j) (h6 : j ≤ 6) : rm_R (vp_updL f j (lN x)) (hsH H j x) := by
  obtain ⟨a1, a2, a3, a4, a5, a6⟩ := h
  have e0 : Hh (hsH H j x) 0 = Hh H 0 := if_neg (by omega)
  have e1 : Hh (hsH H j x) 1 = Hh H 1 := if_neg (by omega)
  refine ⟨fun k hk => ?_, ?_, ?_, fun k hk => ?_, fun k hk q hq => ?_, fun k hk => ?_⟩
  · by_cases e : k = j
    · subst e
      rw [pk_uLs]
      show lN x = lN (if k = k then x else H.1 k)
      rw [if_pos rfl]
    · rw [pk_uLn e]
      show f k = lN (if k = j then x else H.1 k)
      rw [if_neg e]; exact a1 k hk
  · rw [pk_uLn (by omega)]; exact a2
  · rw [pk_uLn (by omega)]; exact a3
  · rw [e0] at hk
    refine ⟨?_, ?_, fun q h1 h2 => ?_⟩
    · rw [pk_uLn (by omega)]; exact (a4 k hk).1
    · rw [pk_uLn (by omega)]; exact (a4 k hk).2.1
    · rw [pk_uLn (by omega)]; exact (a4 k hk).2.2 q h1 h2
  · rw [e1] at hk
    rw [pk_uLn (by omega)]; exact a5 k hk q hq
  · rw [pk_uLn (by omega)]; exact a6 k hk
end HR
-- the class's cells
section HC
variable {v : gd_D} {h : Nat} {H : hs_T}
theorem cr_sS {i j x : Nat} (hR : cr_R v h H) (h24 : Hh H 1 ≤ 24) (hi : i < Hh H 1) (hj : j < 9) : cr_R (gd_sI v 9 (24 * h + i) j (nI x)) h (hsS H i j x) := by
  obtain ⟨a1, a2, a3, a4, a5⟩ := hR
  refine ⟨fun k hk => ?_, a2, fun k hk => ?_, fun k hk q hq => ?_, a5.1, a5.2.1, fun k hk => ?_⟩
  · rw [sI_ne (by omega)]; exact a1 k hk
  · rw [sI_ne (by omega), sI_ne (by omega)]; exact a3 k hk
  · by_cases e : k = i ∧ q = j
    · obtain ⟨rfl, rfl⟩ := e
      rw [sI_at, hsS_at]
    · rw [sI_ne (by omega), hsS_ne e]; exact a4 k hk q hq
  · rw [sI_ne (by omega)]; exact a5.2.2 k hk
theorem cr_sD {i j x : Nat} (hR : cr_R v h H) (hi : i < Hh H 0) (hj : j = 0 ∨ j = 5) : cr_R (gd_sI v 0 (8 * h + i) j (nI x)) h (hsD H i j x) := by
  obtain ⟨a1, a2, a3, a4, a5⟩ := hR
  refine ⟨fun k hk => ?_, a2, fun k hk => ⟨?_, ?_, (a3 k hk).2.2⟩, fun k hk q hq => ?_, a5.1, a5.2.1, fun k hk => ?_⟩
  · rw [sI_ne (by omega)]; exact a1 k hk
  · by_cases e : k = i ∧ 0 = j
    · obtain ⟨rfl, rfl⟩ := e
      rw [sI_at, hsD_at]
    · rw [sI_ne (by omega), hsD_ne e]; exact (a3 k hk).1
  · by_cases e : k = i ∧ 5 = j
    · obtain ⟨rfl, rfl⟩ := e
      rw [sI_at, hsD_at]
    · rw [sI_ne (by omega), hsD_ne e]; exact (a3 k hk).2.1
  · rw [sI_ne (by omega)]; exact a4 k hk q hq
  · rw [sI_ne (by omega)]; exact a5.2.2 k hk
theorem cr_sJ {i j : Nat} {x : Int64} (hR : cr_R v h H) (hi : i < Hh H 0) (h1 : 1 ≤ j) (h4 : j ≤ 4) : cr_R (gd_sJ v 0 (8 * h + i) j x) h (hsJ H i j x) := by
  obtain ⟨a1, a2, a3, a4, a5⟩ := hR
  refine ⟨a1, ?_, fun k hk => ⟨(a3 k hk).1, (a3 k hk).2.1, fun q q1 q2 => ?_⟩, a4, a5⟩
  · rw [sJ_ne (by omega)]; exact a2
  · by_cases e : k = i ∧ q = j
    · obtain ⟨rfl, rfl⟩ := e
      rw [sJ_at, hsJ_at]
    · rw [sJ_ne (by omega), hsJ_ne e]; exact (a3 k hk).2.2 q q1 q2
theorem cr_sO {x : Int64} (hR : cr_R v h H) : cr_R (gd_sJ v 2 h 9 x) h (hsO H x) := by
  obtain ⟨a1, a2, a3, a4, a5⟩ := hR
  refine ⟨a1, sJ_at, fun k hk => ⟨(a3 k hk).1, (a3 k hk).2.1, fun q q1 q2 => ?_⟩, a4, a5⟩
  rw [sJ_ne (by omega)]; exact (a3 k hk).2.2 q q1 q2
theorem cr_sH {j x : Nat} (hR : cr_R v h H) (h2 : 2 ≤ j) : cr_R (gd_sI v 2 h (j + 2) (nI x)) h (hsH H j x) := by
  obtain ⟨a1, a2, a3, a4, a5⟩ := hR
  have e0 : Hh (hsH H j x) 0 = Hh H 0 := if_neg (by omega)
  have e1 : Hh (hsH H j x) 1 = Hh H 1 := if_neg (by omega)
  refine ⟨fun k hk => ?_, a2, fun k hk => ?_, fun k hk q hq => ?_, a5.1, a5.2.1, fun k hk => ?_⟩
  · by_cases e : k = j
    · subst e
      rw [sI_at]
      show nI x = nI (if k = k then x else H.1 k)
      rw [if_pos rfl]
    · rw [sI_ne (by omega)]
      show _ = nI (if k = j then x else H.1 k)
      rw [if_neg e]; exact a1 k hk
  · rw [e0] at hk
    rw [sI_ne (by omega), sI_ne (by omega)]; exact a3 k hk
  · rw [e1] at hk
    rw [sI_ne (by omega)]; exact a4 k hk q hq
  · rw [sI_ne (by omega)]; exact a5.2.2 k hk
end HC
/-- a house's own cells -/
def fh (h : Nat) (k i _ : Nat) : Prop := (k = 2 ∧ i = h) ∨ (k = 0 ∧ 8 * h ≤ i ∧ i < 8 * h + 8) ∨ (k = 9 ∧ 24 * h ≤ i ∧ i < 24 * h + 24)
theorem fh_n {h k i j : Nat} (h1 : ¬ k = 2) (h2 : ¬ k = 0) (h3 : ¬ k = 9) : ¬ fh h k i j := fun q => by rcases q with q | q | q <;> omega
/-! what is done to a house -/
/-- a pays b -/
def h_pay (H : hs_T) (a b : Nat) (c : Int64) : hs_T := hsJ (hsJ H a 1 (Hj H a 1 - c)) b 1 (Hj (hsJ H a 1 (Hj H a 1 - c)) b 1 + c)
/-- units of a sale are settled; how: 6 in a ring, 7 delivered -/
def h_set (H : hs_T) (i u w : Nat) : hs_T := h_pay (hsS (hsS H i 5 (Hs H i 5 - u)) i w (Hs H i w + u)) (Hs H i 1) (Hs H i 0) (lN u * lN (Hs H i 3))
def h_mv (H : hs_T) (a b u : Nat) : hs_T := hsD (hsD H a 0 (Hd H a 0 - u)) b 0 (Hd (hsD H a 0 (Hd H a 0 - u)) b 0 + u)
def h_del (H : hs_T) (i u : Nat) : hs_T := h_mv (h_set H i u 7) (Hs H i 0) (Hs H i 1) u
def h_pen (H : hs_T) (i : Nat) : Int64 := lN (Hs H i 5) * lN (Hs H i 3) * lN (Hh H 4) / 100000
def h_ppen (H : hs_T) (i : Nat) (c : Int64) : hs_T :=
  let H1 := h_pay H (Hs H i 0) (Hs H i 1) c
  let H2 := hsJ H1 (Hs H i 0) 2 (Hj H (Hs H i 0) 2 + c)
  hsJ H2 (Hs H i 1) 3 (Hj H (Hs H i 1) 3 + c)
def h_buyo (H : hs_T) (i u : Nat) : hs_T :=
  let b := Hs H i 1
  let c := lN u * lN (Hh H 3)
  hsO (hsJ (hsD (hsD H b 0 (Hd H b 0 + u)) b 5 (Hd H b 5 + u)) b 1 (Hj H b 1 - c)) (Ho H + c)
def h_close (H : hs_T) (i u : Nat) : hs_T :=
  let c := lN u * lN (Hh H 3 - Hs H i 3)
  hsJ (h_pay (hsS (hsS H i 5 (Hs H i 5 - u)) i 8 (Hs H i 8 + u)) (Hs H i 0) (Hs H i 1) c) (Hs H i 0) 4 (Hj H (Hs H i 0) 4 + c)

/-- a house as it must be but for the bounds of stocks (within a buy-in) -/
def hs_V (H : hs_T) : Prop :=
  Hh H 0 ≤ 8 ∧ Hh H 1 ≤ 24 ∧ Hh H 2 ≤ 5030 ∧ (1 ≤ Hh H 3 ∧ Hh H 3 ≤ 10000) ∧ Hh H 4 ≤ 999 ∧ (1 ≤ Hh H 5 ∧ Hh H 5 ≤ 100) ∧ Hh H 6 ≤ 30 ∧
  True ∧ (∀ i, i < Hh H 1 → hs_S H i) ∧ rp_ok (Hc H)
theorem hs_W.V {H : hs_T} (h : hs_W H) : hs_V H := ⟨h.1, h.2.1, h.2.2.1, h.2.2.2.1, h.2.2.2.2.1, h.2.2.2.2.2.1, h.2.2.2.2.2.2.1, trivial, h.2.2.2.2.2.2.2.2⟩
