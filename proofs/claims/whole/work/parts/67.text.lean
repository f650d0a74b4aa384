/-! TEXT, purely: bytes T, n of them; runs, words, numbers, tokens by their places -/
def isL (x : Int32) : Bool := decide (97 ≤ x) && decide (x ≤ 122)
def isN (x : Int32) : Bool := decide (48 ≤ x) && decide (x ≤ 57)
def isB (x : Int32) : Bool := decide (x = 32)
def rnf (P : Int32 → Bool) (T : Nat → Int32) : Nat → Nat → Nat
  | 0, p => p
  | k + 1, p => if P (T p) then rnf P T k (p + 1) else p
/-- the end of a run -/
def rn (P : Int32 → Bool) (T : Nat → Int32) (n p : Nat) : Nat := rnf P T (n - p) p
section RN
variable {P : Int32 → Bool} {T : Nat → Int32} {n p : Nat}
theorem rn_ge (h : n ≤ p) : rn P T n p = p := by unfold rn; rw [show n - p = 0 by omega]; rfl
theorem rn_go (h : p < n) (hp : P (T p) = true) : rn P T n p = rn P T n (p + 1) := by
  unfold rn
  rw [show n - p = (n - (p + 1)) + 1 by omega]
  show (if P (T p) then _ else p) = _
  rw [if_pos hp]
theorem rn_no (h : p < n) (hp : P (T p) = false) : rn P T n p = p := by
  unfold rn
  rw [show n - p = (n - (p + 1)) + 1 by omega]
  show (if P (T p) then _ else p) = _
  rw [if_neg (by rw [hp]; exact Bool.false_ne_true)]
theorem rn_sp : ∀ k p, p + k = n → p ≤ rn P T n p ∧ rn P T n p ≤ n ∧ (∀ i, p ≤ i → i < rn P T n p → P (T i) = true) ∧ (rn P T n p < n → P (T (rn P T n p)) = false)
  | 0, p, h => by
    rw [rn_ge (by omega)]
    exact ⟨Nat.le_refl _, by omega, fun i h1 h2 => absurd h1 (by omega), fun q => absurd q (by omega)⟩
  | k + 1, p, h => by
    cases hp : P (T p) with
    | true =>
      obtain ⟨a, b, c, d⟩ := rn_sp k (p + 1) (by omega)
      rw [rn_go (by omega) hp]
      refine ⟨by omega, b, fun i h1 h2 => ?_, d⟩
      by_cases e : i = p
      · subst e; exact hp
      · exact c i (by omega) h2
    | false =>
      rw [rn_no (by omega) hp]
      exact ⟨Nat.le_refl _, by omega, fun i h1 h2 => absurd h1 (by omega), fun _ => hp⟩
theorem rn_le (h : p ≤ n) : p ≤ rn P T n p ∧ rn P T n p ≤ n := ⟨(rn_sp (P := P) (T := T) (n - p) p (by omega)).1, (rn_sp (P := P) (T := T) (n - p) p (by omega)).2.1⟩
theorem rn_all (h : p ≤ n) {i : Nat} (h1 : p ≤ i) (h2 : i < rn P T n p) : P (T i) = true := (rn_sp (P := P) (T := T) (n - p) p (by omega)).2.2.1 i h1 h2
theorem rn_end (h : p ≤ n) (h2 : rn P T n p < n) : P (T (rn P T n p)) = false := (rn_sp (P := P) (T := T) (n - p) p (by omega)).2.2.2 h2
theorem rn_is {e : Nat} (h : p ≤ e) (he : e ≤ n) (ha : ∀ i, p ≤ i → i < e → P (T i) = true) (hn : e < n → P (T e) = false) : rn P T n p = e := by
  have key : ∀ k p, p + k = e → (∀ i, p ≤ i → i < e → P (T i) = true) → rn P T n p = e := by
    intro k
    induction k with
    | zero =>
      intro p hk _
      have : p = e := by omega
      subst this
      by_cases q : p < n
      · exact rn_no q (hn q)
      · exact rn_ge (by omega)
    | succ k ih =>
      intro p hk ha
      rw [rn_go (by omega) (ha p (Nat.le_refl _) (by omega))]
      exact ih (p + 1) (by omega) (fun i h1 h2 => ha i (by omega) h2)
  exact key (e - p) p (by omega) ha
end RN
def dgt (x : Int32) : Nat := x.toInt.toNat - 48
def nvf (T : Nat → Int32) : Nat → Nat → Nat → Nat
  | 0, _, a => a
  | k + 1, p, a => nvf T k (p + 1) (min (a * 10 + dgt (T p)) 1000000)
theorem nvf_le (T : Nat → Int32) : ∀ k p a, a ≤ 1000000 → nvf T k p a ≤ 1000000
  | 0, _, _, h => h
  | k + 1, p, a, _ => nvf_le T k (p + 1) _ (Nat.min_le_right _ _)
abbrev tx_n (i : Nat) : Nat := ab_tn.getD i 0
abbrev tx_c (i j : Nat) : Int32 := (ab_tb.getD i []).getD j 0
/-- the letters from p to e spell the i-th word -/
def sp (T : Nat → Int32) (p e i : Nat) : Bool := decide (e = p + tx_n i) && decide (∀ j, j < tx_n i → T (p + j) = tx_c i j)
theorem sp_un {T : Nat → Int32} {p e i j : Nat} (hi : i < 14) (hj : j < 14) (h1 : sp T p e i = true) (h2 : sp T p e j = true) : i = j := by
  unfold sp at h1 h2
  rw [Bool.and_eq_true, decide_eq_true_iff, decide_eq_true_iff] at h1 h2
  have key : ∀ i, i < 14 → ∀ j, j < 14 → tx_n i = tx_n j → (∀ k, k < tx_n i → tx_c i k = tx_c j k) → i = j := by decide +kernel
  have hn : tx_n i = tx_n j := by omega
  exact key i hi j hj hn (fun k hk => by rw [← h1.2 k hk, ← h2.2 k (by omega)])
theorem sp_pos : ∀ i, i < 14 → 0 < tx_n i := by decide +kernel
theorem sp_let : ∀ i, i < 14 → ∀ j, j < tx_n i → isL (tx_c i j) = true := by decide +kernel
/-- which word stands at p (14: none) -/
def wi (T : Nat → Int32) (n p : Nat) : Nat := ((List.range 14).find? (fun i => sp T p (rn isL T n p) i)).getD 14
theorem wi_iff {T : Nat → Int32} {n p i : Nat} (hi : i < 14) : wi T n p = i ↔ sp T p (rn isL T n p) i = true := by
  unfold wi
  cases h : (List.range 14).find? (fun i => sp T p (rn isL T n p) i) with
  | none =>
    have h2 := List.find?_eq_none.mp h i (List.mem_range.mpr hi)
    constructor
    · intro q
      have q : 14 = i := q
      omega
    · intro q; exact absurd q h2
  | some j =>
    have h1 := List.find?_some h
    have hj := List.mem_range.mp (List.mem_of_find?_eq_some h)
    show j = i ↔ _
    constructor
    · intro q; rw [← q]; exact h1
    · intro q; exact sp_un hj hi h1 q
theorem wi_le (T : Nat → Int32) (n p : Nat) : wi T n p ≤ 14 := by
  unfold wi
  cases h : (List.range 14).find? (fun i => sp T p (rn isL T n p) i) with
  | none => exact Nat.le_refl 14
  | some j => exact Nat.le_of_lt (List.mem_range.mp (List.mem_of_find?_eq_some h))
def wcode (w : Nat) : Int32 := if w < 7 then nI (w + 1) else if w < 14 then -(nI (w - 6)) else 0
/-- kind, end, number, next token, worth of the token at p -/
def tk (T : Nat → Int32) (n p : Nat) : Nat := if n ≤ p then 0 else if isL (T p) then 1 else if isN (T p) then 2 else 3
def te (T : Nat → Int32) (n p : Nat) : Nat := if isL (T p) then rn isL T n p else if isN (T p) then rn isN T n p else p + 1
def nm (T : Nat → Int32) (n p : Nat) : Nat := nvf T (rn isN T n p - p) p 0
def nx (T : Nat → Int32) (n p : Nat) : Nat := rn isB T n (te T n p)
def tw (T : Nat → Int32) (n p : Nat) : Int32 := if n ≤ p then 0 else if isL (T p) then wcode (wi T n p) else if isN (T p) then nI (nm T n p) else T p
/-- a place at which no blank stands -/
def stt (T : Nat → Int32) (n p : Nat) : Prop := p ≤ n ∧ (p < n → isB (T p) = false)
section TK
variable {T : Nat → Int32} {n p : Nat}
theorem stt_rn (h : p ≤ n) : stt T n (rn isB T n p) := ⟨(rn_le h).2, rn_end h⟩
theorem te_sp (h : p < n) : p < te T n p ∧ te T n p ≤ n := by
  unfold te
  cases h1 : isL (T p) with
  | true =>
    rw [if_pos rfl, rn_go h h1]
    have := rn_le (P := isL) (T := T) (n := n) (p := p + 1) (by omega)
    omega
  | false =>
    rw [if_neg Bool.false_ne_true]
    cases h2 : isN (T p) with
    | true =>
      rw [if_pos rfl, rn_go h h2]
      have := rn_le (P := isN) (T := T) (n := n) (p := p + 1) (by omega)
      omega
    | false => rw [if_neg Bool.false_ne_true]; omega
theorem nx_sp (h : p < n) : p < nx T n p ∧ stt T n (nx T n p) := by
  have h1 := te_sp (T := T) h
  have h2 := rn_le (P := isB) (T := T) (n := n) (p := te T n p) h1.2
  exact ⟨by unfold nx; omega, stt_rn h1.2⟩
theorem stt.rn (h : stt T n p) : rn isB T n p = p := by
  by_cases q : p < n
  · exact rn_no q (h.2 q)
  · exact rn_ge (by omega)
theorem nm_le : nm T n p ≤ 1000000 := nvf_le T _ _ _ (by omega)
end TK
/-! THE RULE's language: a fault (kind, place), or a place and the code so far -/
abbrev rX : Type := (Nat × Nat) ⊕ (Nat × List Nat)
def xb (x : rX) (f : Nat → List Nat → rX) : rX := match x with
  | Sum.inl e => Sum.inl e
  | Sum.inr q => f q.1 q.2
def pG (T : Nat → Int32) (n : Nat) (c : Int32) (p : Nat) (L : List Nat) : rX := if p < n ∧ T p = c then Sum.inr (nx T n p, L) else Sum.inl (1, p)
def pPl (T : Nat → Int32) (n : Nat) (f : Nat → List Nat → rX) : Nat → Nat → List Nat → rX
  | 0, p, L => Sum.inr (p, L)
  | k + 1, p, L => if p < n ∧ T p = 42 then xb (f (nx T n p) L) (fun q M => pPl T n f k q (M ++ [2000042])) else Sum.inr (p, L)
def pP (T : Nat → Int32) (n : Nat) (f : Nat → List Nat → rX) (p : Nat) (L : List Nat) : rX := xb (f p L) (pPl T n f n)
def pSl (T : Nat → Int32) (n : Nat) (f : Nat → List Nat → rX) : Nat → Nat → List Nat → rX
  | 0, p, L => Sum.inr (p, L)
  | k + 1, p, L => if p < n ∧ T p = 43 then xb (pP T n f (nx T n p) L) (fun q M => pSl T n f k q (M ++ [2000043])) else if p < n ∧ T p = 45 then xb (pP T n f (nx T n p) L) (fun q M => pSl T n f k q (M ++ [2000045])) else Sum.inr (p, L)
def pS (T : Nat → Int32) (n : Nat) (f : Nat → List Nat → rX) (p : Nat) (L : List Nat) : rX := xb (pP T n f p L) (pSl T n f n)
/-- within a nest: none is left, or what reads one deeper -/
def pN (T : Nat → Int32) (n : Nat) (rc : Option (Nat → List Nat → rX)) (p : Nat) (L : List Nat) : rX := match rc with
  | none => Sum.inl (4, p)
  | some f => if T p = 40 then xb (pS T n f (nx T n p) L) (pG T n 41) else xb (f (nx T n p) L) (fun q M => Sum.inr (q, M ++ [2000110]))
def pFa (T : Nat → Int32) (n : Nat) (rc : Option (Nat → List Nat → rX)) (p : Nat) (L : List Nat) : rX :=
  if tk T n p = 2 then (if nm T n p ≤ 9999 then Sum.inr (nx T n p, L ++ [nm T n p]) else Sum.inl (2, p))
  else if tk T n p = 1 ∧ 7 ≤ wi T n p ∧ wi T n p < 14 then Sum.inr (nx T n p, L ++ [3000000 + (wi T n p - 7)])
  else if p < n ∧ (T p = 40 ∨ T p = 45) then pN T n rc p L
  else Sum.inl (1, p)
def pF (T : Nat → Int32) (n : Nat) : Nat → Nat → List Nat → rX
  | 0 => pFa T n none
  | r + 1 => pFa T n (some (pF T n r))
/-- what is known of a result: b values may wait more -/
def gX (T : Nat → Int32) (n b p : Nat) (L : List Nat) (x : rX) : Prop := match x with
  | Sum.inl e => 1 ≤ e.1 ∧ e.1 ≤ 4 ∧ e.2 ≤ n
  | Sum.inr q => p < q.1 ∧ stt T n q.1 ∧ ∃ C, q.2 = L ++ C ∧ C.length + p ≤ q.1 ∧ (∀ c ∈ C, rp_step c) ∧ ∀ h l, h + b ≤ 16 → rp_dep (C ++ l) h = rp_dep l (h + 1)
def gF (T : Nat → Int32) (n b : Nat) (f : Nat → List Nat → rX) : Prop := ∀ p L, stt T n p → gX T n b p L (f p L)
section GX
variable {T : Nat → Int32} {n b : Nat} {f : Nat → List Nat → rX}
theorem rp_op {c : Nat} (hc : c = 2000042 ∨ c = 2000043 ∨ c = 2000045) (l : List Nat) (h : Nat) : rp_dep (c :: l) (h + 2) = rp_dep l (h + 1) := by
  show (if c < 2000000 ∨ 3000000 ≤ c then _ else if c = 2000110 then _ else if 2 ≤ h + 2 then rp_dep l (h + 2 - 1) else none) = _
  rw [if_neg (by omega), if_neg (by omega), if_pos (by omega)]
  rfl
/-- one step of a loop -/
theorem gX_step {p q : Nat} {L M : List Nat} {c : Nat} (hc : c = 2000042 ∨ c = 2000043 ∨ c = 2000045) {b2 : Nat} (hb : b + 1 ≤ b2) (hg : gX T n b2 p L (Sum.inr (q, M))) {q' : Nat} {M' : List Nat} {q0 : Nat} (hq : q < q0) (hf : gX T n b q0 M (Sum.inr (q', M'))) : gX T n b2 p L (Sum.inr (q', M' ++ [c])) := by
  obtain ⟨a1, a2, C, e, a3, a4, a5⟩ := hg
  obtain ⟨b1, b2', D, e2, b3, b4, b5⟩ := hf
  have a1 : p < q := a1
  have b1 : q0 < q' := b1
  have e : M = L ++ C := e
  have e2 : M' = M ++ D := e2
  have a3 : C.length + p ≤ q := a3
  have b3 : D.length + q0 ≤ q' := b3
  refine ⟨by show p < q'; omega, b2', C ++ (D ++ [c]), ?_, ?_, ?_, fun h l hh => ?_⟩
  · show M' ++ [c] = _
    rw [e2, e, List.append_assoc, List.append_assoc]
  · show (C ++ (D ++ [c])).length + p ≤ q'
    rw [List.length_append, List.length_append, List.length_singleton]; omega
  · intro x hx
    rcases List.mem_append.mp hx with hx | hx
    · exact a4 x hx
    · rcases List.mem_append.mp hx with hx | hx
      · exact b4 x hx
      · rw [List.mem_singleton.mp hx]
        rcases hc with hc | hc | hc <;> rw [hc] <;> unfold rp_step <;> decide
  · rw [List.append_assoc, List.append_assoc, a5 h _ hh, b5 (h + 1) _ (by omega)]
    exact rp_op hc l h
theorem gX_wk {p : Nat} {L : List Nat} {b2 : Nat} (hb : b ≤ b2) {x : rX} (h : gX T n b p L x) : gX T n b2 p L x := by
  cases x with
  | inl e => exact h
  | inr q =>
    obtain ⟨a1, a2, C, e, a3, a4, a5⟩ := h
    exact ⟨a1, a2, C, e, a3, a4, fun h l hh => a5 h l (by omega)⟩
theorem pPl_g (hf : gF T n b f) {p : Nat} {L : List Nat} : ∀ k q M, gX T n (b + 1) p L (Sum.inr (q, M)) → gX T n (b + 1) p L (pPl T n f k q M)
  | 0, q, M, h => h
  | k + 1, q, M, h => by
    show gX T n (b + 1) p L (if q < n ∧ T q = 42 then xb (f (nx T n q) M) (fun q M => pPl T n f k q (M ++ [2000042])) else Sum.inr (q, M))
    split
    · rename_i hc
      have hn := nx_sp (T := T) hc.1
      have h1 := hf (nx T n q) M hn.2
      cases hx : f (nx T n q) M with
      | inl e => rw [hx] at h1; exact h1
      | inr r =>
        rw [hx] at h1
        exact pPl_g hf k r.1 (r.2 ++ [2000042]) (gX_step (Or.inl rfl) (Nat.le_refl _) h hn.1 h1)
    · exact h
theorem pP_g (hf : gF T n b f) : gF T n (b + 1) (pP T n f) := by
  intro p L hp
  have h1 := hf p L hp
  show gX T n (b + 1) p L (xb (f p L) (pPl T n f n))
  cases hx : f p L with
  | inl e => rw [hx] at h1; exact h1
  | inr r => rw [hx] at h1; exact pPl_g hf n r.1 r.2 (gX_wk (by omega) h1)
theorem pSl_g (hf : gF T n b f) {p : Nat} {L : List Nat} : ∀ k q M, gX T n (b + 2) p L (Sum.inr (q, M)) → gX T n (b + 2) p L (pSl T n f k q M)
  | 0, q, M, h => h
  | k + 1, q, M, h => by
    show gX T n (b + 2) p L (if q < n ∧ T q = 43 then xb (pP T n f (nx T n q) M) (fun q M => pSl T n f k q (M ++ [2000043])) else if q < n ∧ T q = 45 then xb (pP T n f (nx T n q) M) (fun q M => pSl T n f k q (M ++ [2000045])) else Sum.inr (q, M))
    split
    · rename_i hc
      have hn := nx_sp (T := T) hc.1
      have h1 := pP_g hf (nx T n q) M hn.2
      cases hx : pP T n f (nx T n q) M with
      | inl e => rw [hx] at h1; exact h1
      | inr r =>
        rw [hx] at h1
        exact pSl_g hf k r.1 (r.2 ++ [2000043]) (gX_step (Or.inr (Or.inl rfl)) (Nat.le_refl _) h hn.1 h1)
    · split
      · rename_i hc
        have hn := nx_sp (T := T) hc.1
        have h1 := pP_g hf (nx T n q) M hn.2
        cases hx : pP T n f (nx T n q) M with
        | inl e => rw [hx] at h1; exact h1
        | inr r =>
          rw [hx] at h1
          exact pSl_g hf k r.1 (r.2 ++ [2000045]) (gX_step (Or.inr (Or.inr rfl)) (Nat.le_refl _) h hn.1 h1)
      · exact h
theorem pS_g (hf : gF T n b f) : gF T n (b + 2) (pS T n f) := by
  intro p L hp
  have h1 := pP_g hf p L hp
  show gX T n (b + 2) p L (xb (pP T n f p L) (pSl T n f n))
  cases hx : pP T n f p L with
  | inl e => rw [hx] at h1; exact h1
  | inr r => rw [hx] at h1; exact pSl_g hf n r.1 r.2 (gX_wk (by omega) h1)
theorem rp_pu {c : Nat} (hc : c < 2000000 ∨ 3000000 ≤ c) (l : List Nat) {h : Nat} (hh : h + 1 ≤ 16) : rp_dep (c :: l) h = rp_dep l (h + 1) := by
  show (if c < 2000000 ∨ 3000000 ≤ c then (if h < 16 then rp_dep l (h + 1) else none) else _) = _
  rw [if_pos hc, if_pos (by omega)]
theorem pFa_g {rc : Option (Nat → List Nat → rX)} (hrc : ∀ f, rc = some f → ∃ b', b' + 2 ≤ b ∧ gF T n b' f) (hb : 1 ≤ b) : gF T n b (pFa T n rc) := by
  intro p L hp
  have one : ∀ c, (c < 2000000 ∨ 3000000 ≤ c) → rp_step c → p < n → gX T n b p L (Sum.inr (nx T n p, L ++ [c])) := by
    intro c hc hs hlt
    have hn := nx_sp (T := T) hlt
    refine ⟨hn.1, hn.2, [c], rfl, by show 1 + p ≤ nx T n p; omega, fun x hx => by rw [List.mem_singleton.mp hx]; exact hs, fun h l hh => rp_pu hc l (by omega)⟩
  have tkp : ∀ {k}, tk T n p = k → ¬ k = 0 → p < n := by
    intro k h1 h2
    apply Nat.lt_of_not_le
    intro h3
    unfold tk at h1
    rw [if_pos h3] at h1
    exact h2 h1.symm
  unfold pFa
  split
  · rename_i h
    have hlt := tkp h (by omega)
    split
    · rename_i h2
      exact one _ (Or.inl (by omega)) (Or.inl h2) hlt
    · exact ⟨by show 1 ≤ 2; omega, by show 2 ≤ 4; omega, hp.1⟩
  · split
    · rename_i h
      exact one _ (Or.inr (by omega)) (Or.inr (Or.inl ⟨by omega, by omega⟩)) (tkp h.1 (by omega))
    · split
      · rename_i h
        have hn := nx_sp (T := T) h.1
        unfold pN
        cases rc with
        | none => exact ⟨by show 1 ≤ 4; omega, by show 4 ≤ 4; omega, hp.1⟩
        | some f =>
          obtain ⟨b', hb', hf⟩ := hrc f rfl
          show gX T n b p L (if T p = 40 then xb (pS T n f (nx T n p) L) (pG T n 41) else xb (f (nx T n p) L) (fun q M => Sum.inr (q, M ++ [2000110])))
          split
          · have h1 := pS_g hf (nx T n p) L hn.2
            cases hx : pS T n f (nx T n p) L with
            | inl e => rw [hx] at h1; exact h1
            | inr r =>
              rw [hx] at h1
              obtain ⟨a1, a2, C, e, a3, a4, a5⟩ := h1
              show gX T n b p L (if r.1 < n ∧ T r.1 = 41 then Sum.inr (nx T n r.1, r.2) else Sum.inl (1, r.1))
              split
              · rename_i h3
                have hn2 := nx_sp (T := T) h3.1
                exact ⟨by show p < nx T n r.1; omega, hn2.2, C, e, by show C.length + p ≤ nx T n r.1; omega, a4, fun h l hh => a5 h l (by omega)⟩
              · exact ⟨by show 1 ≤ 1; omega, by show 1 ≤ 4; omega, a2.1⟩
          · have h1 := hf (nx T n p) L hn.2
            cases hx : f (nx T n p) L with
            | inl e => rw [hx] at h1; exact h1
            | inr r =>
              rw [hx] at h1
              obtain ⟨a1, a2, C, e, a3, a4, a5⟩ := h1
              have e : r.2 = L ++ C := e
              refine ⟨by show p < r.1; omega, a2, C ++ [2000110], ?_, ?_, ?_, fun h l hh => ?_⟩
              · show r.2 ++ [2000110] = _
                rw [e, List.append_assoc]
              · show (C ++ [2000110]).length + p ≤ r.1
                rw [List.length_append, List.length_singleton]; omega
              · intro x hx
                rcases List.mem_append.mp hx with hx | hx
                · exact a4 x hx
                · rw [List.mem_singleton.mp hx]; unfold rp_step; decide
              · rw [List.append_assoc, a5 h _ (by omega)]
                show (if (2000110 : Nat) < 2000000 ∨ 3000000 ≤ 2000110 then _ else if 2000110 = 2000110 then (if 1 ≤ h + 1 then rp_dep l (h + 1) else none) else _) = _
                rw [if_neg (by omega), if_pos rfl, if_pos (by omega)]
      · exact ⟨by show 1 ≤ 1; omega, by show 1 ≤ 4; omega, hp.1⟩
theorem pF_g : ∀ r, gF T n (1 + 2 * r) (pF T n r)
  | 0 => pFa_g (fun f h => by cases h) (by omega)
  | r + 1 => pFa_g (fun f h => by cases h; exact ⟨1 + 2 * r, by omega, pF_g r⟩) (by omega)
end GX
