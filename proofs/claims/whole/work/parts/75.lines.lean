/-! TEXT, purely: lines -/
def h_0 : hs_T := (fun j => if j = 3 then 100 else if j = 5 then 1 else if j = 6 then 4 else 0, fun _ _ => 0, fun _ _ => 0, fun _ _ => 0, 0, [])
def h_addd (H : hs_T) (s : Nat) : hs_T := (fun j => if j = 0 then Hh H 0 + 1 else H.1 j, fun i j => if i = Hh H 0 then (if j = 0 then s else 0) else H.2.1 i j, fun i j => if i = Hh H 0 then 0 else H.2.2.1 i j, H.2.2.2)
def hsC (H : hs_T) (c : List Nat) : hs_T := (H.1, H.2.1, H.2.2.1, H.2.2.2.1, H.2.2.2.2.1, c)
abbrev uT : Type := hs_T × (Nat → Bool)
def su (se : Nat → Bool) (j : Nat) : Nat → Bool := fun x => decide (x = j) || se x
abbrev rL : Type := (Nat × Nat) ⊕ (Nat × uT)
def nb {α : Type} (x : (Nat × Nat) ⊕ (Nat × Nat)) (f : Nat → Nat → (Nat × Nat) ⊕ α) : (Nat × Nat) ⊕ α := match x with
  | Sum.inl e => Sum.inl e
  | Sum.inr q => f q.1 q.2
theorem nb_r {α : Type} {a q : Nat} {f : Nat → Nat → (Nat × Nat) ⊕ α} : nb (Sum.inr (a, q)) f = f a q := rfl
theorem nb_l {α : Type} {e : Nat × Nat} {f : Nat → Nat → (Nat × Nat) ⊕ α} : nb (Sum.inl e) f = Sum.inl e := rfl
def dfl (j : Nat) : Nat := if j = 3 then 100 else if j = 5 then 1 else if j = 6 then 4 else 0
section PLN
variable (T : Nat → Int32) (n : Nat)
def pOne (j lo hx p : Nat) (u : uT) : rL := if u.2 j then Sum.inl (1, p) else nb (pNum T n lo hx none (nx T n p)) (fun w q => Sum.inr (q, (hsH u.1 j w, su u.2 j)))
def pDeal (p : Nat) (u : uT) : rL := if 8 ≤ Hh u.1 0 then Sum.inl (3, p) else nb (pNum T n 0 10000 none (nx T n p)) (fun w q => Sum.inr (q, (h_addd u.1 w, u.2)))
def pSale (p : Nat) (u : uT) : rL := if 24 ≤ Hh u.1 1 then Sum.inl (3, p) else nb (pNum T n 0 (Hh u.1 0) none (nx T n p)) (fun a q1 => nb (pNum T n 0 (Hh u.1 0) (some a) q1) (fun b q2 => nb (pNum T n 1 1001 none q2) (fun un q3 => nb (pNum T n 1 10001 none q3) (fun pr q4 => nb (pNum T n 0 1000 none q4) (fun t q5 => Sum.inr (q5, (h_adds u.1 a b un pr t, u.2)))))))
def pRule (p : Nat) (u : uT) : rL := if u.2 7 then Sum.inl (1, p) else match pS T n (pF T n 5) (nx T n p) [] with
  | Sum.inl e => Sum.inl e
  | Sum.inr q => Sum.inr (q.1, (hsC u.1 q.2, su u.2 7))
def pLine (p : Nat) (u : uT) : rL := if wi T n p = 0 then pDeal T n p u else if wi T n p = 1 then pSale T n p u else if wi T n p = 2 then pOne T n 4 0 1000 p u else if wi T n p = 3 then pOne T n 5 1 101 p u else if wi T n p = 4 then pOne T n 6 0 31 p u else if wi T n p = 5 then pOne T n 3 1 10001 p u else if wi T n p = 6 then pRule T n p u else Sum.inl (1, p)
def pTx : Nat → Nat → uT → rL
  | 0, p, u => Sum.inr (p, u)
  | k + 1, p, u => if p < n then (match pLine T n p u with
      | Sum.inl e => Sum.inl e
      | Sum.inr q => (match yG T n 59 q.1 with
        | Sum.inl e => Sum.inl e
        | Sum.inr q' => pTx k q' q.2)) else Sum.inr (p, u)
end PLN
/-- how a text's house must be -/
def uOK (u : uT) : Prop := hs_W u.1 ∧ Hh u.1 2 = 0 ∧ Ho u.1 = 0 ∧ (∀ i, i < Hh u.1 0 → Hd u.1 i 5 = 0 ∧ ∀ j, Hj u.1 i j = 0) ∧ (∀ j, 3 ≤ j → j ≤ 6 → u.2 j = false → Hh u.1 j = dfl j) ∧ (u.2 7 = false ↔ Hc u.1 = [])
def gL (T : Nat → Int32) (n p : Nat) (x : rL) : Prop := match x with
  | Sum.inl e => 1 ≤ e.1 ∧ e.1 ≤ 4 ∧ e.2 ≤ n
  | Sum.inr q => p < q.1 ∧ stt T n q.1 ∧ uOK q.2
section PLO
variable {T : Nat → Int32} {n p : Nat} {u : uT}
theorem pNum_r {a hx : Nat} {o : Option Nat} {w q : Nat} (h : pNum T n a hx o p = Sum.inr (w, q)) : p < n ∧ a ≤ w ∧ w < hx ∧ ¬ o = some w ∧ q = nx T n p := by
  unfold pNum at h
  split at h
  · rename_i h1
    split at h
    · rename_i h2
      cases h
      exact ⟨tk_lt h1 (by omega), h2.1, h2.2.1, h2.2.2, rfl⟩
    · cases h
  · cases h
theorem pNum_l {a hx : Nat} {o : Option Nat} {e : Nat × Nat} (h : pNum T n a hx o p = Sum.inl e) : 1 ≤ e.1 ∧ e.1 ≤ 4 ∧ e.2 = p := by
  unfold pNum at h
  split at h
  · split at h
    · cases h
    · cases h; exact ⟨by show 1 ≤ 2; omega, by show 2 ≤ 4; omega, rfl⟩
  · cases h; exact ⟨by show 1 ≤ 1; omega, by show 1 ≤ 4; omega, rfl⟩
theorem h_0_W : hs_W h_0 := ⟨by decide, by decide, by decide, by decide, by decide, by decide, by decide, fun i hi => absurd hi (by show ¬ i < 0; omega), fun i hi => absurd hi (by show ¬ i < 0; omega), by show ([] : List Nat).length ≤ 500; decide, fun c hc => (by cases hc), Or.inl rfl⟩
theorem u_0_ok : uOK (h_0, fun _ => false) := ⟨h_0_W, rfl, rfl, fun i hi => absurd hi (by show ¬ i < 0; omega), fun j h3 h6 _ => by
  show (if j = 3 then 100 else if j = 5 then 1 else if j = 6 then 4 else 0) = dfl j
  rfl, ⟨fun _ => rfl, fun _ => rfl⟩⟩
theorem h_addd_W {H : hs_T} {s : Nat} (hW : hs_W H) (h8 : Hh H 0 < 8) (hs : s ≤ 9999) : hs_W (h_addd H s) := by
  obtain ⟨a0, a1, a2, a3, a4, a5, a6, a7, a8, a9⟩ := hW
  have e : ∀ j, ¬ j = 0 → Hh (h_addd H s) j = Hh H j := fun j hj => if_neg hj
  have e0 : Hh (h_addd H s) 0 = Hh H 0 + 1 := rfl
  refine ⟨by rw [e0]; omega, by rw [e 1 (by omega)]; exact a1, by rw [e 2 (by omega)]; exact a2, by rw [e 3 (by omega)]; exact a3, by rw [e 4 (by omega)]; exact a4, by rw [e 5 (by omega)]; exact a5, by rw [e 6 (by omega)]; exact a6, fun i hi => ?_, fun i hi => ?_, a9⟩
  · rw [e0] at hi
    rw [e 1 (by omega), hs_used_J (H := H) (H' := h_addd H s) rfl]
    show (if i = Hh H 0 then (if 0 = 0 then s else 0) else H.2.1 i 0) ≤ _ ∧ (if i = Hh H 0 then (if 5 = 0 then s else 0) else H.2.1 i 5) ≤ _
    by_cases q : i = Hh H 0
    · rw [if_pos q, if_pos q, if_pos rfl, if_neg (by omega)]; omega
    · rw [if_neg q, if_neg q]; exact a7 i (by omega)
  · rw [e 1 (by omega)] at hi
    obtain ⟨s1, s2, s3⟩ := a8 i hi
    exact ⟨by rw [e0]; exact Nat.lt_succ_of_lt s1, by rw [e0]; exact Nat.lt_succ_of_lt s2, s3⟩
theorem hsH_W {H : hs_T} {j x : Nat} (hW : hs_W H) (hj : (j = 4 ∧ x ≤ 999) ∨ (j = 5 ∧ 1 ≤ x ∧ x ≤ 100) ∨ (j = 6 ∧ x ≤ 30) ∨ (j = 3 ∧ 1 ≤ x ∧ x ≤ 10000)) : hs_W (hsH H j x) := by
  obtain ⟨a0, a1, a2, a3, a4, a5, a6, a7, a8, a9⟩ := hW
  have e : ∀ a, Hh (hsH H j x) a = if a = j then x else Hh H a := fun a => rfl
  have en : ∀ a, ¬ a = j → Hh (hsH H j x) a = Hh H a := fun a ha => if_neg ha
  refine ⟨by rw [en 0 (by omega)]; exact a0, by rw [en 1 (by omega)]; exact a1, by rw [en 2 (by omega)]; exact a2, ?_, ?_, ?_, ?_, fun i hi => ?_, fun i hi => ?_, a9⟩
  · rw [e 3]; split <;> omega
  · rw [e 4]; split <;> omega
  · rw [e 5]; split <;> omega
  · rw [e 6]; split <;> omega
  · rw [en 0 (by omega)] at hi
    rw [en 1 (by omega), hs_used_J (H := H) (H' := hsH H j x) rfl]
    exact a7 i hi
  · rw [en 1 (by omega)] at hi
    obtain ⟨s1, s2, s3⟩ := a8 i hi
    exact ⟨by rw [en 0 (by omega)]; exact s1, by rw [en 0 (by omega)]; exact s2, s3⟩
theorem su_at {se : Nat → Bool} {j : Nat} : su se j j = true := by unfold su; rw [decide_eq_true rfl]; rfl
theorem su_ne {se : Nat → Bool} {j x : Nat} (h : ¬ x = j) : su se j x = se x := by unfold su; rw [decide_eq_false h]; rfl
theorem pOne_g {j lo hx : Nat} (hp : stt T n p) (hlt : p < n) (hu : uOK u) (hj : ∀ w, lo ≤ w → w < hx → (j = 4 ∧ w ≤ 999) ∨ (j = 5 ∧ 1 ≤ w ∧ w ≤ 100) ∨ (j = 6 ∧ w ≤ 30) ∨ (j = 3 ∧ 1 ≤ w ∧ w ≤ 10000)) : gL T n p (pOne T n j lo hx p u) := by
  have hn := nx_sp (T := T) hlt
  unfold pOne
  split
  · exact ⟨by show 1 ≤ 1; omega, by show 1 ≤ 4; omega, hp.1⟩
  · cases hN : pNum T n lo hx none (nx T n p) with
    | inl e =>
      obtain ⟨e1, e2, e3⟩ := pNum_l hN
      exact ⟨e1, e2, by rw [e3]; exact hn.2.1⟩
    | inr wq =>
      obtain ⟨w, q⟩ := wq
      obtain ⟨h1, h2, h3, -, h4⟩ := pNum_r hN
      have hn2 := nx_sp (T := T) h1
      have hjw := hj w h2 h3
      obtain ⟨u1, u2, u3, u4, u5, u6⟩ := hu
      have en : ∀ a, ¬ a = j → Hh (hsH u.1 j w) a = Hh u.1 a := fun a ha => if_neg ha
      rw [← h4] at hn2
      refine ⟨by show p < q; omega, hn2.2, hsH_W u1 hjw, ?_, u3, ?_, ?_, ?_⟩
      · show Hh (hsH u.1 j w) 2 = 0
        rw [en 2 (by omega)]; exact u2
      · intro i hi
        have hi : i < Hh (hsH u.1 j w) 0 := hi
        rw [en 0 (by omega)] at hi
        exact u4 i hi
      · intro a a3 a6 ha
        have ha : su u.2 j a = false := ha
        show Hh (hsH u.1 j w) a = dfl a
        by_cases e : a = j
        · rw [e, su_at] at ha; cases ha
        · rw [su_ne e] at ha
          rw [en a e]; exact u5 a a3 a6 ha
      · show su u.2 j 7 = false ↔ _
        rw [su_ne (by omega)]; exact u6
theorem pDeal_g (hp : stt T n p) (hlt : p < n) (hu : uOK u) : gL T n p (pDeal T n p u) := by
  have hn := nx_sp (T := T) hlt
  unfold pDeal
  split
  · exact ⟨by show 1 ≤ 3; omega, by show 3 ≤ 4; omega, hp.1⟩
  · rename_i h8
    cases hN : pNum T n 0 10000 none (nx T n p) with
    | inl e =>
      obtain ⟨e1, e2, e3⟩ := pNum_l hN
      exact ⟨e1, e2, by rw [e3]; exact hn.2.1⟩
    | inr wq =>
      obtain ⟨w, q⟩ := wq
      obtain ⟨h1, h2, h3, -, h4⟩ := pNum_r hN
      have hn2 := nx_sp (T := T) h1
      obtain ⟨u1, u2, u3, u4, u5, u6⟩ := hu
      have e : ∀ j, ¬ j = 0 → Hh (h_addd u.1 w) j = Hh u.1 j := fun j hj => if_neg hj
      rw [← h4] at hn2
      refine ⟨by show p < q; omega, hn2.2, h_addd_W u1 (by omega) (by omega), ?_, u3, ?_, ?_, u6⟩
      · show Hh (h_addd u.1 w) 2 = 0
        rw [e 2 (by omega)]; exact u2
      · intro i hi
        have hi : i < Hh u.1 0 + 1 := hi
        show (if i = Hh u.1 0 then (if 5 = 0 then w else 0) else u.1.2.1 i 5) = 0 ∧ ∀ j, (if i = Hh u.1 0 then 0 else u.1.2.2.1 i j) = 0
        by_cases q : i = Hh u.1 0
        · rw [if_pos q, if_neg (by omega)]
          exact ⟨rfl, fun j => by rw [if_pos q]⟩
        · rw [if_neg q]
          exact ⟨(u4 i (by omega)).1, fun j => by rw [if_neg q]; exact (u4 i (by omega)).2 j⟩
      · intro a a3 a6 ha
        show Hh (h_addd u.1 w) a = dfl a
        rw [e a (by omega)]; exact u5 a a3 a6 ha
theorem pSale_g (hp : stt T n p) (hlt : p < n) (hu : uOK u) : gL T n p (pSale T n p u) := by
  have hn := nx_sp (T := T) hlt
  have bad : ∀ {a hx : Nat} {o : Option Nat} {p' : Nat} {e : Nat × Nat}, p' ≤ n → pNum T n a hx o p' = Sum.inl e → gL T n p (Sum.inl e) := fun hp' hN => by
    obtain ⟨e1, e2, e3⟩ := pNum_l hN
    exact ⟨e1, e2, by rw [e3]; exact hp'⟩
  unfold pSale
  split
  · exact ⟨by show 1 ≤ 3; omega, by show 3 ≤ 4; omega, hp.1⟩
  · rename_i h24
    cases hN1 : pNum T n 0 (Hh u.1 0) none (nx T n p) with
    | inl e => exact bad hn.2.1 hN1
    | inr w1 =>
      obtain ⟨a, q1⟩ := w1
      obtain ⟨b1, b2, b3, -, b4⟩ := pNum_r hN1
      have n1 := nx_sp (T := T) b1
      rw [← b4] at n1
      rw [nb_r]
      cases hN2 : pNum T n 0 (Hh u.1 0) (some a) q1 with
      | inl e => exact bad n1.2.1 hN2
      | inr w2 =>
        obtain ⟨b, q2⟩ := w2
        obtain ⟨c1, c2, c3, c5, c4⟩ := pNum_r hN2
        have n2 := nx_sp (T := T) c1
        rw [← c4] at n2
        rw [nb_r]
        cases hN3 : pNum T n 1 1001 none q2 with
        | inl e => exact bad n2.2.1 hN3
        | inr w3 =>
          obtain ⟨un, q3⟩ := w3
          obtain ⟨d1, d2, d3, -, d4⟩ := pNum_r hN3
          have n3 := nx_sp (T := T) d1
          rw [← d4] at n3
          rw [nb_r]
          cases hN4 : pNum T n 1 10001 none q3 with
          | inl e => exact bad n3.2.1 hN4
          | inr w4 =>
            obtain ⟨pr, q4⟩ := w4
            obtain ⟨e1, e2, e3, -, e4⟩ := pNum_r hN4
            have n4 := nx_sp (T := T) e1
            rw [← e4] at n4
            rw [nb_r]
            cases hN5 : pNum T n 0 1000 none q4 with
            | inl e => exact bad n4.2.1 hN5
            | inr w5 =>
              obtain ⟨t, q5⟩ := w5
              obtain ⟨f1, f2, f3, -, f4⟩ := pNum_r hN5
              have n5 := nx_sp (T := T) f1
              rw [← f4] at n5
              obtain ⟨u1, u2, u3, u4, u5, u6⟩ := hu
              have e : ∀ j, ¬ j = 1 → Hh (h_adds u.1 a b un pr t) j = Hh u.1 j := fun j hj => if_neg hj
              refine ⟨by show p < q5; omega, n5.2, h_adds_W u1 (by omega) b3 c3 (fun q => c5 (by rw [q])) ⟨d2, by omega⟩ ⟨e2, by omega⟩ (by omega), ?_, u3, ?_, ?_, u6⟩
              · show Hh (h_adds u.1 a b un pr t) 2 = 0
                rw [e 2 (by omega)]; exact u2
              · intro i hi
                have hi : i < Hh (h_adds u.1 a b un pr t) 0 := hi
                rw [e 0 (by omega)] at hi
                exact u4 i hi
              · intro z z3 z6 hz
                show Hh (h_adds u.1 a b un pr t) z = dfl z
                rw [e z (by omega)]; exact u5 z z3 z6 hz
theorem pRule_g (hp : stt T n p) (hlt : p < n) (hn5 : n ≤ 500) (hu : uOK u) : gL T n p (pRule T n p u) := by
  have hn := nx_sp (T := T) hlt
  have hg := pS_g (pF_g (T := T) (n := n) 5) (nx T n p) [] hn.2
  unfold pRule
  split
  · exact ⟨by show 1 ≤ 1; omega, by show 1 ≤ 4; omega, hp.1⟩
  · cases hN : pS T n (pF T n 5) (nx T n p) [] with
    | inl e => rw [hN] at hg; exact hg
    | inr q =>
      rw [hN] at hg
      obtain ⟨g1, g2, C, e, g3, g4, g5⟩ := hg
      have e : q.2 = C := e
      have g2' : q.1 ≤ n := g2.1
      obtain ⟨⟨a0, a1, a2, a3, a4, a5, a6, a7, a8, a9⟩, u2, u3, u4, u5, u6⟩ := hu
      have dep : rp_dep C 0 = some 1 := by
        have := g5 0 [] (by omega)
        rw [List.append_nil] at this
        exact this
      refine ⟨by show p < q.1; omega, g2, ⟨a0, a1, a2, a3, a4, a5, a6, fun i hi => ?_, a8, ?_⟩, u2, u3, u4, ?_, ?_⟩
      · show _ ≤ 100000 + hs_used (hsC u.1 q.2) _ ∧ _ ≤ hs_used (hsC u.1 q.2) _
        rw [hs_used_J (H := u.1) (H' := hsC u.1 q.2) rfl]; exact a7 i hi
      · show rp_ok q.2
        rw [e]
        exact ⟨by omega, g4, Or.inr dep⟩
      · intro z z3 z6 hz
        have hz : su u.2 7 z = false := hz
        rw [su_ne (by omega)] at hz
        exact u5 z z3 z6 hz
      · show su u.2 7 7 = false ↔ q.2 = []
        rw [su_at, e]
        refine ⟨fun z => (by cases z), fun z => ?_⟩
        rw [z] at dep
        cases dep
theorem wi_tk (hp : p ≤ n) (h : wi T n p < 14) : tk T n p = 1 := by
  have hs := (wi_iff (T := T) (n := n) (p := p) h).mp rfl
  unfold sp at hs
  rw [Bool.and_eq_true, decide_eq_true_iff] at hs
  have hpos := sp_pos _ h
  have hr := rn_le (P := isL) (T := T) hp
  have hlt : p < n := by omega
  have hL := rn_all (P := isL) (T := T) (n := n) (p := p) (i := p) hp (Nat.le_refl _) (by omega)
  unfold tk
  rw [if_neg (by omega), hL, if_pos rfl]
theorem pLine_g (hp : stt T n p) (hlt : p < n) (hn5 : n ≤ 500) (hu : uOK u) : gL T n p (pLine T n p u) := by
  unfold pLine
  split
  · exact pDeal_g hp hlt hu
  · split
    · exact pSale_g hp hlt hu
    · split
      · exact pOne_g hp hlt hu (fun w _ h => Or.inl ⟨rfl, by omega⟩)
      · split
        · exact pOne_g hp hlt hu (fun w h1 h2 => Or.inr (Or.inl ⟨rfl, h1, by omega⟩))
        · split
          · exact pOne_g hp hlt hu (fun w h1 h2 => Or.inr (Or.inr (Or.inl ⟨rfl, by omega⟩)))
          · split
            · exact pOne_g hp hlt hu (fun w h1 h2 => Or.inr (Or.inr (Or.inr ⟨rfl, h1, by omega⟩)))
            · split
              · exact pRule_g hp hlt hn5 hu
              · exact ⟨by show 1 ≤ 1; omega, by show 1 ≤ 4; omega, hp.1⟩
end PLO
