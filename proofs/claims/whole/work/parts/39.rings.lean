/-! RINGS, purely; a row of sales is kept from its end -/
def rg_fit (H : hs_T) (i : Nat) : Bool := decide (Hs H i 4 ≤ Hh H 2) && decide (Hh H 5 ≤ Hs H i 5)
def rg_p (H : hs_T) : List Nat → Prop
  | [] => True
  | s :: R => (s < Hh H 1 ∧ rg_fit H s = true) ∧ (∀ x ∈ R, ¬ Hs H x 0 = Hs H s 0) ∧ (∀ r, R.head? = some r → Hs H r 1 = Hs H s 0) ∧ rg_p H R
/-- home: the seller of the first -/
def rg_h (H : hs_T) : List Nat → Nat
  | [] => 0
  | [s] => Hs H s 0
  | _ :: r :: R => rg_h H (r :: R)
def rg_c (H : hs_T) (R : List Nat) : Prop := ∃ s T, R = s :: T ∧ Hs H s 1 = rg_h H R
/-- it can be closed by n more at most -/
def rg_Xn (H : hs_T) : Nat → List Nat → Prop
  | 0, R => rg_p H R ∧ rg_c H R
  | n + 1, R => rg_Xn H n R ∨ ∃ s, rg_Xn H n (s :: R)
def rg_X (H : hs_T) (R : List Nat) : Prop := ∃ n, rg_Xn H n R
theorem rg_X.done {H : hs_T} {R : List Nat} (h : rg_p H R) (hc : rg_c H R) : rg_X H R := ⟨0, h, hc⟩
theorem rg_X.step {H : hs_T} {s : Nat} {R : List Nat} (h : rg_X H (s :: R)) : rg_X H R := by
  obtain ⟨n, h⟩ := h
  exact ⟨n + 1, Or.inr ⟨s, h⟩⟩
theorem rg_X.ind {H : hs_T} {C : List Nat → Prop} (h0 : ∀ R, rg_p H R → rg_c H R → C R) (h1 : ∀ s R, rg_X H (s :: R) → C (s :: R) → C R) {R : List Nat} (h : rg_X H R) : C R := by
  obtain ⟨n, h⟩ := h
  have key : ∀ n R, rg_Xn H n R → C R := by
    intro n
    induction n with
    | zero => exact fun R h => h0 R h.1 h.2
    | succ n ih =>
      intro R h
      rcases h with h | ⟨s, h⟩
      · exact ih R h
      · exact h1 s R ⟨n, h⟩ (ih (s :: R) h)
  exact key n R h
theorem rg_X.p {H : hs_T} {R : List Nat} (h : rg_X H R) : rg_p H R := rg_X.ind (C := rg_p H) (fun _ h _ => h) (fun _ _ _ ih => ih.2.2.2) h
theorem rg_X.nx {H : hs_T} {R : List Nat} (h : rg_X H R) (hc : ¬ rg_c H R) : ∃ s, rg_X H (s :: R) := by
  obtain ⟨n, h⟩ := h
  induction n with
  | zero => exact absurd h.2 hc
  | succ n ih =>
    rcases h with h | ⟨s, h⟩
    · exact ih h
    · exact ⟨s, n, h⟩
theorem rg_p.suf {H : hs_T} : ∀ {M R : List Nat}, rg_p H (M ++ R) → rg_p H R
  | [], _, h => h
  | _ :: M, _, h => rg_p.suf (M := M) h.2.2.2
theorem rg_X.suf {H : hs_T} : ∀ {M R : List Nat}, rg_X H (M ++ R) → rg_X H R
  | [], _, h => h
  | _ :: M, _, h => rg_X.suf (M := M) (rg_X.step h)
/-- home is a seller of the row -/
theorem rg_h_mem {H : hs_T} : ∀ {R : List Nat}, ¬ R = [] → ∃ x ∈ R, Hs H x 0 = rg_h H R
  | [], h => absurd rfl h
  | [s], _ => ⟨s, List.mem_cons_self, rfl⟩
  | s :: r :: R, _ => by
    obtain ⟨x, hx, e⟩ := rg_h_mem (H := H) (R := r :: R) (fun q => by cases q)
    exact ⟨x, List.mem_cons_of_mem s hx, e⟩
theorem rg_h_cons {H : hs_T} {s : Nat} {R : List Nat} (h : ¬ R = []) : rg_h H (s :: R) = rg_h H R := by
  cases R with
  | nil => exact absurd rfl h
  | cons r R => rfl
/-- what is closed is not gone on with -/
theorem rg_c.no {H : hs_T} {s : Nat} {R : List Nat} (hc : rg_c H R) (hp : rg_p H (s :: R)) : False := by
  obtain ⟨r, T, e, hr⟩ := hc
  have hne : ¬ R = [] := by rw [e]; exact fun q => by cases q
  obtain ⟨x, hx, ex⟩ := rg_h_mem (H := H) hne
  apply hp.2.1 x hx
  rw [ex, ← hr]
  exact hp.2.2.1 r (by rw [e]; rfl)
def rg_G (H : hs_T) (O : List Nat) : List Nat → Prop
  | [] => True
  | s :: R => (∃ A B, O = A ++ s :: B ∧ ∀ x ∈ A, ¬ rg_X H (x :: R)) ∧ rg_G H O R
/-- the first ring -/
def rg_F (H : hs_T) (O R : List Nat) : Prop := rg_p H R ∧ rg_c H R ∧ rg_G H O R
theorem rg_G.suf {H : hs_T} {O : List Nat} : ∀ {M R : List Nat}, rg_G H O (M ++ R) → rg_G H O R
  | [], _, h => h
  | _ :: M, _, h => rg_G.suf (M := M) h.2
theorem fst_un {P : Nat → Prop} {s s' : Nat} : ∀ {A A' B B' : List Nat}, A ++ s :: B = A' ++ s' :: B' → P s → P s' → (∀ x ∈ A, ¬ P x) → (∀ x ∈ A', ¬ P x) → s = s'
  | [], [], _, _, h, _, _, _, _ => (List.cons.inj h).1
  | [], a :: A', _, _, h, hs, _, _, hA' => absurd (by rw [← (List.cons.inj h).1]; exact hs) (hA' a List.mem_cons_self)
  | a :: A, [], _, _, h, _, hs', hA, _ => absurd (by rw [(List.cons.inj h).1]; exact hs') (hA a List.mem_cons_self)
  | a :: A, a' :: A', _, _, h, hs, hs', hA, hA' => fst_un (A := A) (A' := A') (List.cons.inj h).2 hs hs' (fun x hx => hA x (List.mem_cons_of_mem a hx)) (fun x hx => hA' x (List.mem_cons_of_mem a' hx))
theorem rg_same {H : hs_T} {O : List Nat} : ∀ {R R' : List Nat}, rg_G H O R → rg_G H O R' → rg_X H R → rg_X H R' → R.length = R'.length → R = R'
  | [], [], _, _, _, _, _ => rfl
  | [], _ :: _, _, _, _, _, h => by cases h
  | _ :: _, [], _, _, _, _, h => by cases h
  | s :: R, s' :: R', h1, h2, h3, h4, hl => by
    have e := rg_same h1.2 h2.2 h3.step h4.step (Nat.succ.inj hl)
    subst e
    obtain ⟨A, B, e1, hA⟩ := h1.1
    obtain ⟨A', B', e2, hA'⟩ := h2.1
    rw [fst_un (P := fun x => rg_X H (x :: R)) (e1.symm.trans e2) h3 h4 hA hA']
theorem rg_F_le {H : hs_T} {O R R' : List Nat} (h1 : rg_F H O R) (h2 : rg_F H O R') (hl : R.length ≤ R'.length) : R = R' := by
  have e : R' = R'.take (R'.length - R.length) ++ R'.drop (R'.length - R.length) := (List.take_append_drop _ _).symm
  have hX' := rg_X.done h2.1 h2.2.1
  have hX := rg_X.done h1.1 h1.2.1
  have el : (R'.drop (R'.length - R.length)).length = R.length := by rw [List.length_drop]; omega
  have hG : rg_G H O (R'.drop (R'.length - R.length)) := rg_G.suf (M := R'.take (R'.length - R.length)) (by rw [← e]; exact h2.2.2)
  have hXs : rg_X H (R'.drop (R'.length - R.length)) := rg_X.suf (M := R'.take (R'.length - R.length)) (by rw [← e]; exact hX')
  have es := rg_same h1.2.2 hG hX hXs el.symm
  by_cases z : R'.length - R.length = 0
  · rw [z] at es; exact es
  · exfalso
    have : ∃ m, R'.drop (R'.length - R.length - 1) = m :: R := by
      have hlt : R'.length - R.length - 1 < R'.length := by
        have : 0 < R.length := by
          obtain ⟨s, T, e, _⟩ := h1.2.1
          rw [e]; exact Nat.succ_pos _
        omega
      have e2 := List.drop_eq_getElem_cons hlt
      rw [show R'.length - R.length - 1 + 1 = R'.length - R.length from by omega, ← es] at e2
      exact ⟨_, e2⟩
    obtain ⟨m, em⟩ := this
    have hp : rg_p H (m :: R) := by
      rw [← em]
      exact rg_p.suf (M := R'.take (R'.length - R.length - 1)) (by rw [List.take_append_drop]; exact h2.1)
    exact h1.2.1.no hp
theorem rg_F_un {H : hs_T} {O R R' : List Nat} (h1 : rg_F H O R) (h2 : rg_F H O R') : R = R' := by
  rcases Nat.le_total R.length R'.length with q | q
  · exact rg_F_le h1 h2 q
  · exact (rg_F_le h2 h1 q).symm
/-- distinct numbers below n are n at most -/
theorem nd_le : ∀ (n : Nat) (l : List Nat), l.Nodup → (∀ x ∈ l, x < n) → l.length ≤ n
  | 0, l, _, h => by
    cases l with
    | nil => exact Nat.le_refl 0
    | cons a l => exact absurd (h a List.mem_cons_self) (Nat.not_lt_zero a)
  | n + 1, l, hn, h => by
    have h1 := nd_le n (l.erase n) (hn.erase n) (fun x hx => by
      have q := (List.Nodup.mem_erase_iff hn).mp hx
      have := h x q.2
      have := q.1
      omega)
    by_cases e : n ∈ l
    · rw [List.length_erase_of_mem e] at h1; omega
    · rw [List.erase_of_not_mem e] at h1; omega
theorem rg_p.nd {H : hs_T} : ∀ {R : List Nat}, rg_p H R → (R.map (fun s => Hs H s 0)).Nodup
  | [], _ => List.nodup_nil
  | s :: R, h => by
    rw [List.map_cons]
    refine List.nodup_cons.mpr ⟨fun q => ?_, rg_p.nd h.2.2.2⟩
    obtain ⟨x, hx, e⟩ := List.mem_map.mp q
    exact h.2.1 x hx e
theorem rg_p.mem {H : hs_T} : ∀ {R : List Nat}, rg_p H R → ∀ s ∈ R, s < Hh H 1 ∧ rg_fit H s = true
  | [], _, s, hs => by cases hs
  | a :: R, h, s, hs => by
    rcases List.mem_cons.mp hs with q | q
    · rw [q]; exact h.1
    · exact rg_p.mem h.2.2.2 s q
theorem rg_p.len {H : hs_T} (hV : hs_V H) {R : List Nat} (h : rg_p H R) : R.length ≤ 8 := by
  have := nd_le (Hh H 0) (R.map (fun s => Hs H s 0)) h.nd (fun x hx => by
    obtain ⟨s, hs, e⟩ := List.mem_map.mp hx
    rw [← e]
    exact (hV.2.2.2.2.2.2.2.2.1 s (h.mem s hs).1).1)
  rw [List.length_map] at this
  have := hV.1
  omega
/-! who reaches home -/
def rg_e (H : hs_T) (z y : Nat) : Prop := ∃ s, s < Hh H 1 ∧ rg_fit H s = true ∧ Hs H s 0 = z ∧ Hs H s 1 = y
/-- home is reached from z in n steps at most, past nobody of B -/
def rg_n (H : hs_T) (hm : Nat) (B : Nat → Prop) : Nat → Nat → Prop
  | 0, z => z = hm
  | n + 1, z => rg_n H hm B n z ∨ (¬ B z ∧ ∃ y, rg_e H z y ∧ rg_n H hm B n y)
theorem rg_n_avoid {H : hs_T} {hm : Nat} {B : Nat → Prop} {z : Nat} : ∀ (n y : Nat), rg_n H hm B n y → rg_n H hm (fun x => B x ∨ x = z) n y ∨ rg_n H hm B n z
  | 0, y, h => Or.inl h
  | n + 1, y, h => by
    rcases h with h | ⟨hB, y', he, h⟩
    · rcases rg_n_avoid n y h with q | q
      · exact Or.inl (Or.inl q)
      · exact Or.inr (Or.inl q)
    · by_cases e : y = z
      · subst e
        exact Or.inr (Or.inr ⟨hB, y', he, h⟩)
      · rcases rg_n_avoid n y' h with q | q
        · exact Or.inl (Or.inr ⟨fun r => by rcases r with r | r; exact hB r; exact e r, y', he, q⟩)
        · exact Or.inr (Or.inl q)
/-- .. from the end of a row: then the row can be closed -/
theorem rg_n_X {H : hs_T} : ∀ (n : Nat) (s : Nat) (R : List Nat), rg_p H (s :: R) → rg_n H (rg_h H (s :: R)) (fun z => ∃ x ∈ s :: R, Hs H x 0 = z) n (Hs H s 1) → rg_X H (s :: R)
  | 0, s, R, hp, h => rg_X.done hp ⟨s, R, rfl, h⟩
  | n + 1, s, R, hp, h => by
    by_cases hq : rg_n H (rg_h H (s :: R)) (fun z => ∃ x ∈ s :: R, Hs H x 0 = z) n (Hs H s 1)
    · exact rg_n_X n s R hp hq
    · rcases h with h | ⟨hB, y, ⟨t, t1, t2, t3, t4⟩, h⟩
      · exact absurd h hq
      · rcases rg_n_avoid (z := Hs H s 1) n y h with q | q
        · have hp2 : rg_p H (t :: s :: R) := ⟨⟨t1, t2⟩, fun x hx e => hB ⟨x, hx, e.trans t3⟩, fun r hr => by cases hr; exact t3.symm, hp⟩
          refine rg_X.step (rg_n_X n t (s :: R) hp2 ?_)
          rw [t4]
          have eB : (fun z => ∃ x ∈ t :: s :: R, Hs H x 0 = z) = (fun x => (∃ x_1, x_1 ∈ s :: R ∧ Hs H x_1 0 = x) ∨ x = Hs H s 1) := by
            funext z
            apply propext
            constructor
            · rintro ⟨x, hx, e⟩
              rcases List.mem_cons.mp hx with q | q
              · rw [q, t3] at e; exact Or.inr e.symm
              · exact Or.inl ⟨x, q, e⟩
            · rintro (⟨x, hx, e⟩ | e)
              · exact ⟨x, List.mem_cons_of_mem t hx, e⟩
              · exact ⟨t, List.mem_cons_self, t3.trans e.symm⟩
          rw [eB]
          exact q
        · exact absurd q hq
/-- .. and the other way -/
theorem rg_X_n {H : hs_T} {R : List Nat} (h : rg_X H R) : ∀ s T, R = s :: T → ∀ B : Nat → Prop, (∀ z, B z → ∃ x ∈ R, Hs H x 0 = z) → ∃ n, rg_n H (rg_h H R) B n (Hs H s 1) := by
  refine rg_X.ind (C := fun R => ∀ s T, R = s :: T → ∀ B : Nat → Prop, (∀ z, B z → ∃ x ∈ R, Hs H x 0 = z) → ∃ n, rg_n H (rg_h H R) B n (Hs H s 1)) ?_ ?_ h
  · intro R _ hc s T e B hB
    obtain ⟨s', T', e', hh⟩ := hc
    rw [e] at e'
    cases e'
    exact ⟨0, hh⟩
  · intro t R hx ih s T e B hB
    subst e
    have hp := hx.p
    obtain ⟨n, hn⟩ := ih t (s :: T) rfl B (fun z hz => by obtain ⟨x, hx, e⟩ := hB z hz; exact ⟨x, List.mem_cons_of_mem t hx, e⟩)
    have ets : Hs H s 1 = Hs H t 0 := hp.2.2.1 s rfl
    refine ⟨n + 1, Or.inr ⟨fun hb => ?_, Hs H t 1, ⟨t, hp.1.1, hp.1.2, ets.symm, rfl⟩, hn⟩⟩
    obtain ⟨x, hx, e⟩ := hB _ hb
    exact hp.2.1 x hx (e.trans ets)
