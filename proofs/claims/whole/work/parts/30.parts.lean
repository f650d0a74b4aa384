/-! PARTS, purely: who stands on whom -/
/-- one sale's parts: over the sales b in order; n units still need one, f: what is still free -/
def pt_one (H : hs_T) (s : Nat) : List Nat → Nat → (Nat → Nat) → List (Nat × Nat) × Nat × (Nat → Nat)
  | [], n, f => ([], n, f)
  | b :: l, n, f => if Hs H b 1 = Hs H s 0 ∧ 0 < n ∧ 0 < f b then
      let t := min n (f b)
      let r := pt_one H s l (n - t) (fun x => if x = b then f b - t else f x)
      ((b, t) :: r.1, r.2)
    else pt_one H s l n f
theorem pt_one_c {H : hs_T} {s b n : Nat} {l : List Nat} {f : Nat → Nat} : pt_one H s (b :: l) n f = if Hs H b 1 = Hs H s 0 ∧ 0 < n ∧ 0 < f b then ((b, min n (f b)) :: (pt_one H s l (n - min n (f b)) (fun x => if x = b then f b - min n (f b) else f x)).1, (pt_one H s l (n - min n (f b)) (fun x => if x = b then f b - min n (f b) else f x)).2) else pt_one H s l n f := rfl
theorem pt_one_0 {H : hs_T} {s : Nat} : ∀ (l : List Nat) (f : Nat → Nat), pt_one H s l 0 f = ([], 0, f)
  | [], f => rfl
  | b :: l, f => by rw [pt_one_c, if_neg (fun q => Nat.lt_irrefl 0 q.2.1)]; exact pt_one_0 l f
/-- all parts: parts of each, own fault of each, what is free -/
abbrev pt_T : Type := (Nat → List (Nat × Nat)) × (Nat → Nat) × (Nat → Nat)
def pt_put (T : pt_T) (s : Nat) (r : List (Nat × Nat) × Nat × (Nat → Nat)) : pt_T := (fun x => if x = s then r.1 else T.1 x, fun x => if x = s then r.2.1 else T.2.1 x, r.2.2)
def pt_go (H : hs_T) (O : List Nat) : List Nat → pt_T → pt_T
  | [], T => T
  | s :: l, T => pt_go H O l (if hq H s then pt_put T s (pt_one H s O (Hs H s 5) T.2.2) else T)
def pt_0 (H : hs_T) : pt_T := (fun _ => [], fun _ => 0, fun b => if hq H b then Hs H b 5 else 0)
def pt_all (H : hs_T) (O : List Nat) : pt_T := pt_go H O O (pt_0 H)
/-- how many of the first n are free still -/
def pt_c (f : Nat → Nat) : Nat → Nat
  | 0 => 0
  | n + 1 => pt_c f n + if 0 < f n then 1 else 0
theorem pt_c_le (f : Nat → Nat) : ∀ n, pt_c f n ≤ n
  | 0 => Nat.le_refl 0
  | n + 1 => by
    have := pt_c_le f n
    show pt_c f n + _ ≤ n + 1
    split <;> omega
theorem pt_c_up {f f' : Nat → Nat} {b : Nat} (h : ∀ x, ¬ x = b → f' x = f x) : ∀ n, (n ≤ b → pt_c f' n = pt_c f n) ∧ (b < n → pt_c f' n + (if 0 < f b then 1 else 0) = pt_c f n + if 0 < f' b then 1 else 0)
  | 0 => ⟨fun _ => rfl, fun q => absurd q (Nat.not_lt_zero b)⟩
  | n + 1 => by
    obtain ⟨i1, i2⟩ := pt_c_up h n
    constructor
    · intro q
      show pt_c f' n + _ = pt_c f n + _
      rw [i1 (by omega), h n (by omega)]
    · intro q
      show pt_c f' n + _ + _ = pt_c f n + _ + _
      by_cases e : n = b
      · subst e
        rw [i1 (Nat.le_refl n)]; omega
      · rw [h n e]
        have := i2 (by omega)
        omega
theorem pt_c_0 {f f' : Nat → Nat} {b : Nat} (h : ∀ x, ¬ x = b → f' x = f x) (hb : 0 < f b) {n : Nat} (hn : b < n) : pt_c f' n + 1 = pt_c f n + if 0 < f' b then 1 else 0 := by
  have := (pt_c_up h n).2 hn
  rw [if_pos hb] at this; exact this
/-- room for the parts of one sale -/
theorem pt_one_room {H : hs_T} {s N : Nat} : ∀ (l : List Nat) (n : Nat) (f : Nat → Nat), (∀ b ∈ l, b < N) → (pt_one H s l n f).1.length + pt_c (pt_one H s l n f).2.2 N ≤ pt_c f N + 1
  | [], n, f, _ => by show 0 + pt_c f N ≤ _; omega
  | b :: l, n, f, hl => by
    have hl' : ∀ x ∈ l, x < N := fun x hx => hl x (List.mem_cons_of_mem b hx)
    rw [pt_one_c]
    by_cases c : Hs H b 1 = Hs H s 0 ∧ 0 < n ∧ 0 < f b
    · rw [if_pos c]
      have hc := pt_c_0 (f := f) (f' := fun x => if x = b then f b - min n (f b) else f x) (b := b) (fun x hx => if_neg hx) c.2.2 (hl b List.mem_cons_self)
      show ((b, min n (f b)) :: (pt_one H s l (n - min n (f b)) (fun x => if x = b then f b - min n (f b) else f x)).1).length + pt_c (pt_one H s l (n - min n (f b)) (fun x => if x = b then f b - min n (f b) else f x)).2.2 N ≤ _
      rw [List.length_cons]
      by_cases e : n - min n (f b) = 0
      · rw [e, pt_one_0]
        show ([] : List (Nat × Nat)).length + 1 + pt_c (fun x => if x = b then f b - min n (f b) else f x) N ≤ _
        have h1 : ∀ x : Nat, (if 0 < x then 1 else 0) ≤ 1 := fun x => by split <;> omega
        have := h1 ((fun x => if x = b then f b - min n (f b) else f x) b)
        have h2 := Nat.le_trans (Nat.le_of_eq hc) (Nat.add_le_add_left this _)
        simp only [List.length_nil]
        omega
      · have e2 : f b - min n (f b) = 0 := by omega
        have ih := pt_one_room (H := H) (s := s) l (n - min n (f b)) (fun x => if x = b then f b - min n (f b) else f x) hl'
        rw [if_neg (by rw [if_pos rfl]; omega)] at hc
        omega
    · rw [if_neg c]; exact pt_one_room l n f hl'
/-- parts are units, of sales in order, of those that the seller is to get -/
theorem pt_one_mem {H : hs_T} {s : Nat} : ∀ (l : List Nat) (n : Nat) (f : Nat → Nat), (∀ p ∈ (pt_one H s l n f).1, p.1 ∈ l ∧ 0 < p.2 ∧ p.2 ≤ f p.1 ∧ Hs H p.1 1 = Hs H s 0 ∧ p.2 ≤ n)
  | [], n, f => fun p hp => by cases hp
  | b :: l, n, f => by
    rw [pt_one_c]
    by_cases c : Hs H b 1 = Hs H s 0 ∧ 0 < n ∧ 0 < f b
    · rw [if_pos c]
      intro p hp
      rcases List.mem_cons.mp hp with rfl | hp
      · exact ⟨List.mem_cons_self, by show 0 < min n (f b); omega, by show min n (f b) ≤ f b; omega, c.1, by show min n (f b) ≤ n; omega⟩
      · obtain ⟨q1, q2, q3, q4, q5⟩ := pt_one_mem l _ _ p hp
        refine ⟨List.mem_cons_of_mem b q1, q2, ?_, q4, by omega⟩
        by_cases e : p.1 = b
        · rw [if_pos e] at q3; rw [e]; omega
        · rw [if_neg e] at q3; exact q3
    · rw [if_neg c]
      intro p hp
      obtain ⟨q1, q2, q3, q4, q5⟩ := pt_one_mem l n f p hp
      exact ⟨List.mem_cons_of_mem b q1, q2, q3, q4, q5⟩
/-- what one sale's parts take of b -/
def pt_u (L : List (Nat × Nat)) (b : Nat) : Nat := match L with
  | [] => 0
  | p :: L => if p.1 = b then p.2 else pt_u L b
theorem pt_u_no {b : Nat} : ∀ {L : List (Nat × Nat)}, (∀ p ∈ L, ¬ p.1 = b) → pt_u L b = 0
  | [], _ => rfl
  | p :: L, h => by
    show (if p.1 = b then p.2 else pt_u L b) = 0
    rw [if_neg (h p List.mem_cons_self)]
    exact pt_u_no (fun q hq => h q (List.mem_cons_of_mem p hq))
theorem pt_one_u {H : hs_T} {s b : Nat} : ∀ (l : List Nat) (n : Nat) (f : Nat → Nat), l.Nodup → pt_u (pt_one H s l n f).1 b + (pt_one H s l n f).2.2 b = f b
  | [], n, f, _ => by show 0 + f b = f b; omega
  | a :: l, n, f, hn => by
    obtain ⟨h1, h2⟩ := List.nodup_cons.mp hn
    rw [pt_one_c]
    by_cases c : Hs H a 1 = Hs H s 0 ∧ 0 < n ∧ 0 < f a
    · rw [if_pos c]
      have ih := pt_one_u (H := H) (s := s) (b := b) l (n - min n (f a)) (fun x => if x = a then f a - min n (f a) else f x) h2
      show (if a = b then min n (f a) else pt_u (pt_one H s l (n - min n (f a)) (fun x => if x = a then f a - min n (f a) else f x)).1 b) + (pt_one H s l (n - min n (f a)) (fun x => if x = a then f a - min n (f a) else f x)).2.2 b = f b
      by_cases e : a = b
      · subst e
        rw [if_pos rfl]
        rw [pt_u_no (fun p hp => fun q => h1 (by rw [← q]; exact (pt_one_mem l _ _ p hp).1))] at ih
        rw [if_pos rfl] at ih
        omega
      · rw [if_neg e]
        rw [if_neg (fun q => e q.symm)] at ih
        exact ih
    · rw [if_neg c]; exact pt_one_u l n f h2
