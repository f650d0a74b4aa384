/-! THE RULE AND THE ORDER, purely -/
/-- what a word of the rule is for sale s -/
def rp_v (H : hs_T) (s p : Nat) : Int64 := match p with
  | 0 => lN (Hh H 2) - lN (Hs H s 4)
  | 1 => lN (Hs H s 5)
  | 2 => lN (Hs H s 2)
  | 3 => lN (Hs H s 3)
  | 4 => lN (Hs H s 0)
  | 5 => lN (Hs H s 1)
  | _ => lN (Hs H s 4)
def rp_o (c : Nat) (x y : Int64) : Int64 := if c = 2000043 then x + y else if c = 2000045 then x - y else x * y
def rp_a (H : hs_T) (s c : Nat) : Int64 := if c < 2000000 then lN c else rp_v H s (c - 3000000)
def rp_e (H : hs_T) (s : Nat) : List Nat → (Nat → Int64) → Nat → Int64
  | [], f, n => if n = 0 then 0 else f 0
  | c :: l, f, n => if c < 2000000 ∨ 3000000 ≤ c then rp_e H s l (vp_updL f n (rp_a H s c)) (n + 1) else if c = 2000110 then rp_e H s l (vp_updL f (n - 1) (-(f (n - 1)))) n else rp_e H s l (vp_updL f (n - 2) (rp_o c (f (n - 2)) (f (n - 1)))) (n - 1)
/-- the rule's worth of a sale -/
def rp_w (H : hs_T) (s : Nat) : Int64 := rp_e H s (Hc H) (fun _ => 0) 0
theorem rp_e_same {H : hs_T} {s : Nat} : ∀ (l : List Nat) (f f' : Nat → Int64) (n m : Nat), rp_dep l n = some m → (∀ j, j < n → f j = f' j) → rp_e H s l f n = rp_e H s l f' n
  | [], f, f', n, m, _, hf => by
    unfold rp_e
    by_cases h : n = 0
    · rw [if_pos h, if_pos h]
    · rw [if_neg h, if_neg h]; exact hf 0 (by omega)
  | c :: l, f, f', n, m, hd, hf => by
    unfold rp_dep at hd
    unfold rp_e
    by_cases h1 : c < 2000000 ∨ 3000000 ≤ c
    · rw [if_pos h1] at hd ⊢
      rw [if_pos h1]
      by_cases h2 : n < 16
      · rw [if_pos h2] at hd
        refine rp_e_same l _ _ _ m hd (fun j hj => ?_)
        unfold vp_updL
        by_cases e : j = n
        · rw [if_pos e, if_pos e]
        · rw [if_neg e, if_neg e]; exact hf j (by omega)
      · rw [if_neg h2] at hd; cases hd
    · rw [if_neg h1] at hd ⊢
      rw [if_neg h1]
      by_cases h2 : c = 2000110
      · rw [if_pos h2] at hd ⊢
        rw [if_pos h2]
        by_cases h3 : 1 ≤ n
        · rw [if_pos h3] at hd
          refine rp_e_same l _ _ _ m hd (fun j hj => ?_)
          unfold vp_updL
          by_cases e : j = n - 1
          · rw [if_pos e, if_pos e, hf (n - 1) (by omega)]
          · rw [if_neg e, if_neg e]; exact hf j (by omega)
        · rw [if_neg h3] at hd; cases hd
      · rw [if_neg h2] at hd ⊢
        rw [if_neg h2]
        by_cases h3 : 2 ≤ n
        · rw [if_pos h3] at hd
          refine rp_e_same l _ _ _ m hd (fun j hj => ?_)
          unfold vp_updL
          by_cases e : j = n - 2
          · rw [if_pos e, if_pos e, hf (n - 1) (by omega), hf (n - 2) (by omega)]
          · rw [if_neg e, if_neg e]; exact hf j (by omega)
        · rw [if_neg h3] at hd; cases hd
/-- one more sale among those that are ordered: the list is kept from its end -/
def ord_in (w : Nat → Int64) (s : Nat) : List Nat → List Nat
  | [] => [s]
  | x :: l => if w x < w s then x :: ord_in w s l else s :: x :: l
def ord_R (w : Nat → Int64) : Nat → List Nat
  | 0 => []
  | n + 1 => ord_in w n (ord_R w n)
/-- the first n sales in order -/
def ord_L (w : Nat → Int64) (n : Nat) : List Nat := (ord_R w n).reverse
theorem ord_in_len (w : Nat → Int64) (s : Nat) : ∀ l : List Nat, (ord_in w s l).length = l.length + 1
  | [] => rfl
  | x :: l => by
    unfold ord_in
    split
    · rw [List.length_cons, ord_in_len w s l]; rfl
    · rfl
theorem ord_R_len (w : Nat → Int64) : ∀ n, (ord_R w n).length = n
  | 0 => rfl
  | n + 1 => by show (ord_in w n (ord_R w n)).length = _; rw [ord_in_len, ord_R_len w n]
theorem ord_in_mem (w : Nat → Int64) (s x : Nat) : ∀ l : List Nat, x ∈ ord_in w s l ↔ x = s ∨ x ∈ l
  | [] => by simp [ord_in]
  | y :: l => by
    unfold ord_in
    split
    · rw [List.mem_cons, ord_in_mem w s x l, List.mem_cons]
      constructor
      · rintro (h | h | h)
        · exact Or.inr (Or.inl h)
        · exact Or.inl h
        · exact Or.inr (Or.inr h)
      · rintro (h | h | h)
        · exact Or.inr (Or.inl h)
        · exact Or.inl h
        · exact Or.inr (Or.inr h)
    · rw [List.mem_cons]
theorem ord_R_mem (w : Nat → Int64) (x : Nat) : ∀ n, x ∈ ord_R w n ↔ x < n
  | 0 => by simp [ord_R]
  | n + 1 => by
    show x ∈ ord_in w n (ord_R w n) ↔ _
    rw [ord_in_mem, ord_R_mem w x n]; omega
theorem ord_L_len (w : Nat → Int64) (n : Nat) : (ord_L w n).length = n := by unfold ord_L; rw [List.length_reverse, ord_R_len]
theorem ord_L_mem (w : Nat → Int64) (x n : Nat) : x ∈ ord_L w n ↔ x < n := by unfold ord_L; rw [List.mem_reverse, ord_R_mem]
theorem ord_in_nd (w : Nat → Int64) (s : Nat) : ∀ l : List Nat, l.Nodup → s ∉ l → (ord_in w s l).Nodup
  | [], _, _ => by simp [ord_in]
  | y :: l, h, hs => by
    unfold ord_in
    rw [List.nodup_cons] at h
    split
    · rw [List.nodup_cons]
      refine ⟨fun q => ?_, ord_in_nd w s l h.2 (fun q => hs (List.mem_cons_of_mem _ q))⟩
      rcases (ord_in_mem w s y l).mp q with e | e
      · exact hs (by rw [← e]; exact List.mem_cons_self)
      · exact h.1 e
    · rw [List.nodup_cons]
      exact ⟨hs, by rw [List.nodup_cons]; exact h⟩
theorem ord_R_nd (w : Nat → Int64) : ∀ n, (ord_R w n).Nodup
  | 0 => List.nodup_nil
  | n + 1 => ord_in_nd w n _ (ord_R_nd w n) (fun q => by have := (ord_R_mem w n n).mp q; omega)
theorem ord_L_nd (w : Nat → Int64) (n : Nat) : (ord_L w n).Nodup := List.pairwise_reverse.mpr (List.Pairwise.imp (fun h => Ne.symm h) (ord_R_nd w n))
theorem ord_in_congr {w w' : Nat → Int64} {s : Nat} (hs : w s = w' s) : ∀ l : List Nat, (∀ x ∈ l, w x = w' x) → ord_in w s l = ord_in w' s l
  | [], _ => rfl
  | x :: l, h => by
    unfold ord_in
    rw [hs, h x List.mem_cons_self, ord_in_congr hs l (fun y hy => h y (List.mem_cons_of_mem _ hy))]
theorem ord_R_congr {w w' : Nat → Int64} : ∀ n, (∀ x, x < n → w x = w' x) → ord_R w n = ord_R w' n
  | 0, _ => rfl
  | n + 1, h => by
    show ord_in w n (ord_R w n) = ord_in w' n (ord_R w' n)
    rw [ord_R_congr n (fun x hx => h x (by omega))]
    exact ord_in_congr (h n (by omega)) _ (fun x hx => h x (by have := (ord_R_mem w' x n).mp hx; omega))
/-- a row of places, as it stands while a sale goes in: B is still to be passed (its end first), A was moved by one -/
def ord_T (o : Nat → Int32) (A B : List Nat) : Prop := (∀ j, j < B.length → o j = nI (B.reverse.getD j 0)) ∧ ∀ j, j < A.length → o (B.length + 1 + j) = nI (A.reverse.getD j 0)
theorem ord_T0 {o : Nat → Int32} {R : List Nat} (h : ∀ j, j < R.length → o j = nI (R.reverse.getD j 0)) : ord_T o [] R := ⟨h, fun j hj => absurd hj (Nat.not_lt_zero j)⟩
theorem getD_app_l {l m : List Nat} {j : Nat} (h : j < l.length) : (l ++ m).getD j 0 = l.getD j 0 := by
  rw [List.getD_eq_getElem?_getD, List.getD_eq_getElem?_getD, List.getElem?_append_left h]
theorem getD_app_r {l m : List Nat} {j : Nat} (h : l.length ≤ j) : (l ++ m).getD j 0 = m.getD (j - l.length) 0 := by
  rw [List.getD_eq_getElem?_getD, List.getD_eq_getElem?_getD, List.getElem?_append_right h]
/-- the last of those still to be passed -/
theorem ord_T_top {o : Nat → Int32} {A B : List Nat} {x : Nat} (h : ord_T o A (x :: B)) : o B.length = nI x := by
  rw [h.1 B.length (by simp), List.reverse_cons, getD_app_r (by simp)]
  simp
/-- it moves -/
theorem ord_T_mv {o o' : Nat → Int32} {A B : List Nat} {x : Nat} (h : ord_T o A (x :: B)) (h1 : o' (B.length + 1) = nI x) (h2 : ∀ j, ¬ j = B.length + 1 → o' j = o j) : ord_T o' (A ++ [x]) B := by
  refine ⟨fun j hj => ?_, fun j hj => ?_⟩
  · rw [h2 j (by omega), h.1 j (by simp; omega), List.reverse_cons, getD_app_l (by simp; exact hj)]
  · rw [List.reverse_append]
    cases j with
    | zero => rw [Nat.add_zero, h1]; rfl
    | succ j =>
      have hj' : j < A.length := by simp at hj; omega
      rw [h2 _ (by omega), show B.length + 1 + (j + 1) = (x :: B).length + 1 + j from by simp; omega, h.2 j hj']
      rfl
/-- it is laid -/
theorem ord_T_end {o o' : Nat → Int32} {A B : List Nat} {s : Nat} (h : ord_T o A B) (h1 : o' B.length = nI s) (h2 : ∀ j, ¬ j = B.length → o' j = o j) : ∀ j, j < (A ++ s :: B).length → o' j = nI ((A ++ s :: B).reverse.getD j 0) := by
  intro j hj
  rw [List.reverse_append, List.reverse_cons, List.append_assoc]
  by_cases c1 : j < B.length
  · rw [getD_app_l (by rw [List.length_reverse]; exact c1), h2 j (by omega), h.1 j c1]
  · by_cases c2 : j = B.length
    · subst c2
      rw [h1, getD_app_r (by rw [List.length_reverse]; exact Nat.le_refl _)]
      simp
    · have hl : j - B.length - 1 < A.length := by simp at hj; omega
      rw [getD_app_r (by rw [List.length_reverse]; omega), h2 j c2, List.length_reverse]
      have e := h.2 (j - B.length - 1) hl
      rw [show B.length + 1 + (j - B.length - 1) = j from by omega] at e
      rw [e, show j - B.length = (j - B.length - 1) + 1 from by omega]
      rfl
theorem ord_in_split {w : Nat → Int64} {s : Nat} : ∀ (A B : List Nat), (∀ x ∈ A, w x < w s) → (∀ x, B.head? = some x → ¬ w x < w s) → ord_in w s (A ++ B) = A ++ s :: B
  | [], [], _, _ => rfl
  | [], x :: B, _, h => by
    show (if w x < w s then _ else _) = _
    rw [if_neg (h x rfl)]; rfl
  | x :: A, B, h, h2 => by
    show (if w x < w s then x :: ord_in w s (A ++ B) else _) = _
    rw [if_pos (h x List.mem_cons_self), ord_in_split A B (fun y hy => h y (List.mem_cons_of_mem _ hy)) h2]
    rfl
