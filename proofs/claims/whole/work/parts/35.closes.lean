/-! A BUY-IN GOES DOWN, purely -/
abbrev cl_T : Type := hs_T × (Nat → Nat → Nat)
def cl_sub (G : Nat → Nat → Nat) (s b n : Nat) : Nat → Nat → Nat := fun x y => if x = s ∧ y = b then G s b - n else G x y
def cl_loop (rec : Nat → Nat → cl_T → cl_T) (ab : Nat → Bool) (s : Nat) : List Nat → Nat → cl_T → cl_T
  | [], _, x => x
  | b :: l, m, x => if m = 0 then x else if ab b then cl_loop rec ab s l m x else if min m (x.2 s b) = 0 then cl_loop rec ab s l m x else cl_loop rec ab s l (m - min m (x.2 s b)) (rec b (min m (x.2 s b)) (x.1, cl_sub x.2 s b (min m (x.2 s b))))
theorem cl_loop_c {rec : Nat → Nat → cl_T → cl_T} {ab : Nat → Bool} {s b m : Nat} {l : List Nat} {x : cl_T} : cl_loop rec ab s (b :: l) m x = if m = 0 then x else if ab b then cl_loop rec ab s l m x else if min m (x.2 s b) = 0 then cl_loop rec ab s l m x else cl_loop rec ab s l (m - min m (x.2 s b)) (rec b (min m (x.2 s b)) (x.1, cl_sub x.2 s b (min m (x.2 s b)))) := rfl
theorem cl_loop_0 {rec : Nat → Nat → cl_T → cl_T} {ab : Nat → Bool} {s : Nat} {x : cl_T} : ∀ l, cl_loop rec ab s l 0 x = x
  | [] => rfl
  | b :: l => by rw [cl_loop_c, if_pos rfl]
/-- with one more above -/
def cl_up (ab : Nat → Bool) (s : Nat) : Nat → Bool := fun z => ab z || decide (z = s)
def cl_go (P : Nat → List Nat) : Nat → (Nat → Bool) → Nat → Nat → cl_T → cl_T
  | 0, _, _, _, x => x
  | f + 1, ab, s, u, x => cl_loop (cl_go P f (cl_up ab s)) (cl_up ab s) s (P s) u (h_close x.1 s u, x.2)
theorem cl_go_c {P : Nat → List Nat} {f s u : Nat} {ab : Nat → Bool} {x : cl_T} : cl_go P (f + 1) ab s u x = cl_loop (cl_go P f (cl_up ab s)) (cl_up ab s) s (P s) u (h_close x.1 s u, x.2) := rfl
/-- what stands on b in all -/
def cl_col (G : Nat → Nat → Nat) (b : Nat) : Nat → Nat
  | 0 => 0
  | n + 1 => cl_col G b n + G n b
theorem cl_col_ge {G : Nat → Nat → Nat} {b s : Nat} : ∀ n, s < n → G s b ≤ cl_col G b n
  | 0, h => absurd h (Nat.not_lt_zero s)
  | n + 1, h => by
    show G s b ≤ cl_col G b n + G n b
    by_cases e : s = n
    · subst e; omega
    · have := cl_col_ge (G := G) (b := b) n (by omega : s < n); omega
theorem cl_col_sub {G : Nat → Nat → Nat} {s b n c : Nat} (hn : n ≤ G s b) : ∀ N, cl_col (cl_sub G s b n) c N + (if s < N ∧ c = b then n else 0) = cl_col G c N
  | 0 => by rw [if_neg (fun q => Nat.not_lt_zero s q.1)]; rfl
  | N + 1 => by
    have ih := cl_col_sub (G := G) (c := c) hn N
    show cl_col (cl_sub G s b n) c N + (if N = s ∧ c = b then G s b - n else G N c) + _ = cl_col G c N + G N c
    by_cases e : N = s
    · by_cases e2 : c = b
      · subst e; subst e2
        rw [if_neg (fun q => Nat.lt_irrefl N q.1)] at ih
        rw [if_pos ⟨rfl, rfl⟩, if_pos ⟨Nat.lt_succ_self N, rfl⟩]
        omega
      · rw [if_neg (fun q => e2 q.2)] at ih ⊢
        rw [if_neg (fun q => e2 q.2)]
        omega
    · rw [if_neg (fun q => e q.1)]
      by_cases e2 : s < N ∧ c = b
      · rw [if_pos e2] at ih
        rw [if_pos ⟨by omega, e2.2⟩]
        omega
      · rw [if_neg e2] at ih
        rw [if_neg (fun q => e2 ⟨by omega, q.2⟩)]
        omega
/-- what a way down keeps -/
def cl_K (N : Nat) (x y : cl_T) : Prop := Hh y.1 = Hh x.1 ∧ hs_V y.1 ∧ (∀ i j, j < 5 → Hs y.1 i j = Hs x.1 i j) ∧ (∀ s b, y.2 s b ≤ x.2 s b) ∧ y.1.2.1 = x.1.2.1 ∧ (∀ n, hs_used x.1 n ≤ hs_used y.1 n) ∧ ∀ b, Hs y.1 b 5 ≤ Hs x.1 b 5
def cl_B (N : Nat) (x y : cl_T) : Prop := ∀ b, b < N → Hs y.1 b 5 + cl_col x.2 b N = Hs x.1 b 5 + cl_col y.2 b N
/-- who is not above has enough open for what stands on it -/
def cl_I (N : Nat) (ab : Nat → Bool) (x : cl_T) : Prop := ∀ b, b < N → ab b = false → cl_col x.2 b N ≤ Hs x.1 b 5
theorem cl_K.tr {N : Nat} {x y z : cl_T} (h1 : cl_K N x y) (h2 : cl_K N y z) : cl_K N x z :=
  ⟨h2.1.trans h1.1, h2.2.1, fun i j hj => (h2.2.2.1 i j hj).trans (h1.2.2.1 i j hj), fun s b => Nat.le_trans (h2.2.2.2.1 s b) (h1.2.2.2.1 s b), h2.2.2.2.2.1.trans h1.2.2.2.2.1, fun n => Nat.le_trans (h1.2.2.2.2.2.1 n) (h2.2.2.2.2.2.1 n), fun b => Nat.le_trans (h2.2.2.2.2.2.2 b) (h1.2.2.2.2.2.2 b)⟩
theorem h_close_go {H : hs_T} {i u : Nat} : (h_close H i u).2.2.2.1 = (h_go H i u 8).2.2.2.1 := rfl
theorem hs_used_mono {H H' : hs_T} (h2 : ∀ k, Hs H' k 2 = Hs H k 2) (h5 : ∀ k, Hs H' k 5 ≤ Hs H k 5) : ∀ n, hs_used H n ≤ hs_used H' n
  | 0 => Nat.le_refl 0
  | n + 1 => by
    have ih := hs_used_mono h2 h5 n
    have := h2 n
    have := h5 n
    show hs_used H n + (Hs H n 2 - Hs H n 5) ≤ hs_used H' n + (Hs H' n 2 - Hs H' n 5)
    omega
theorem h_close_n {H : hs_T} {i u k j : Nat} (h5 : ¬ (k = i ∧ j = 5)) (h8 : ¬ (k = i ∧ j = 8)) : Hs (h_close H i u) k j = Hs H k j := h_gon (w := 8) h5 h8
theorem h_close_5 {H : hs_T} {i u : Nat} : Hs (h_close H i u) i 5 = Hs H i 5 - u := h_go5 (w := 8) (by omega)
theorem hs_V.J {H H' : hs_T} (hW : hs_V H) (h1 : H'.1 = H.1) (h4 : H'.2.2.2.1 = H.2.2.2.1) (h6 : H'.2.2.2.2.2 = H.2.2.2.2.2) : hs_V H' := by
  obtain ⟨a0, a1, a2, a3, a4, a5, a6, a7, a8, a9⟩ := hW
  unfold hs_V hs_S Hh Hs Hc
  rw [h1, h4, h6]
  exact ⟨a0, a1, a2, a3, a4, a5, a6, trivial, a8, a9⟩
theorem cl_K_close {N s u : Nat} {x : cl_T} (hV : hs_V x.1) (hu : u ≤ Hs x.1 s 5) : cl_K N x (h_close x.1 s u, x.2) := by
  have h5 : ∀ b, Hs (h_close x.1 s u) b 5 ≤ Hs x.1 b 5 := by
    intro b
    by_cases e : b = s
    · subst e; rw [h_close_5]; omega
    · rw [h_close_n (by omega) (by omega)]; exact Nat.le_refl _
  exact ⟨rfl, (hV.go (w := 8) hu (by omega)).J rfl rfl rfl, fun i j hj => h_close_n (by omega) (by omega), fun s b => Nat.le_refl _, rfl, hs_used_mono (fun k => h_close_n (by omega) (by omega)) h5, h5⟩
theorem cl_K_sub {N s b n : Nat} {x : cl_T} (hV : hs_V x.1) : cl_K N x (x.1, cl_sub x.2 s b n) :=
  ⟨rfl, hV, fun _ _ _ => rfl, fun p q => by
    show (if p = s ∧ q = b then x.2 s b - n else x.2 p q) ≤ x.2 p q
    by_cases e : p = s ∧ q = b
    · rw [if_pos e, e.1, e.2]; omega
    · rw [if_neg e]; exact Nat.le_refl _, rfl, fun _ => Nat.le_refl _, fun _ => Nat.le_refl _⟩
/-- the step of the way down: it may be taken, and what it keeps -/
theorem cl_step_ok {N s b n : Nat} {x : cl_T} {ab : Nat → Bool} (hs : s < N) (hb : b < N) (hab : ab b = false) (hI : cl_I N ab x) (hn : n ≤ x.2 s b) : n ≤ Hs x.1 b 5 ∧ cl_I N (cl_up ab b) (x.1, cl_sub x.2 s b n) := by
  have h1 := cl_col_ge (G := x.2) (b := b) N hs
  have h2 := hI b hb hab
  refine ⟨by omega, fun c hc hcab => ?_⟩
  have hcb : ¬ c = b := fun e => by
    unfold cl_up at hcab
    rw [e, decide_eq_true rfl, Bool.or_true] at hcab
    exact absurd hcab (by decide)
  have hc0 : ab c = false := by
    unfold cl_up at hcab
    exact (Bool.or_eq_false_iff.mp hcab).1
  have := cl_col_sub (c := c) hn N
  rw [if_neg (fun q => hcb q.2)] at this
  have := hI c hc hc0
  show cl_col (cl_sub x.2 s b n) c N ≤ Hs x.1 c 5
  omega
theorem cl_I.b {N : Nat} {ab : Nat → Bool} {x y : cl_T} (hI : cl_I N ab x) (hB : cl_B N x y) : cl_I N ab y := fun b hb h => by
  have := hI b hb h
  have := hB b hb
  omega
/-- what the recursion must give -/
def cl_R (N : Nat) (ab : Nat → Bool) (rec : Nat → Nat → cl_T → cl_T) : Prop := ∀ b n (x : cl_T), b < N → ab b = false → hs_V x.1 → n ≤ Hs x.1 b 5 → cl_I N (cl_up ab b) x → cl_K N x (rec b n x) ∧ ∀ c, c < N → Hs (rec b n x).1 c 5 + cl_col x.2 c N + (if c = b then n else 0) = Hs x.1 c 5 + cl_col (rec b n x).2 c N
theorem cl_loop_ok {N s : Nat} {ab : Nat → Bool} {rec : Nat → Nat → cl_T → cl_T} (hs : s < N) (hrec : cl_R N ab rec) : ∀ (l : List Nat) (m : Nat) (x : cl_T), (∀ b ∈ l, b < N) → hs_V x.1 → cl_I N ab x → cl_K N x (cl_loop rec ab s l m x) ∧ cl_B N x (cl_loop rec ab s l m x)
  | [], m, x, _, hV, _ => ⟨⟨rfl, hV, fun _ _ _ => rfl, fun _ _ => Nat.le_refl _, rfl, fun _ => Nat.le_refl _, fun _ => Nat.le_refl _⟩, fun b _ => rfl⟩
  | b :: l, m, x, hl, hV, hI => by
    have hl' : ∀ c ∈ l, c < N := fun c hc => hl c (List.mem_cons_of_mem b hc)
    have hb := hl b List.mem_cons_self
    have same := cl_loop_ok hs hrec l m x hl' hV hI
    rw [cl_loop_c]
    by_cases e0 : m = 0
    · rw [if_pos e0]
      exact ⟨⟨rfl, hV, fun _ _ _ => rfl, fun _ _ => Nat.le_refl _, rfl, fun _ => Nat.le_refl _, fun _ => Nat.le_refl _⟩, fun b _ => rfl⟩
    · rw [if_neg e0]
      cases hab : ab b with
      | true => rw [if_pos rfl]; exact same
      | false =>
        rw [if_neg Bool.false_ne_true]
        by_cases e1 : min m (x.2 s b) = 0
        · rw [if_pos e1]; exact same
        · rw [if_neg e1]
          have hle : min m (x.2 s b) ≤ x.2 s b := Nat.min_le_right _ _
          obtain ⟨o1, o2⟩ := cl_step_ok hs hb hab hI hle
          obtain ⟨r1, r2⟩ := hrec b (min m (x.2 s b)) (x.1, cl_sub x.2 s b (min m (x.2 s b))) hb hab hV o1 o2
          have K1 : cl_K N x (rec b (min m (x.2 s b)) (x.1, cl_sub x.2 s b (min m (x.2 s b)))) := (cl_K_sub hV).tr r1
          have B1 : cl_B N x (rec b (min m (x.2 s b)) (x.1, cl_sub x.2 s b (min m (x.2 s b)))) := by
            intro c hc
            have q1 := r2 c hc
            have q2 := cl_col_sub (c := c) hle N
            have q1' : Hs (rec b (min m (x.2 s b)) (x.1, cl_sub x.2 s b (min m (x.2 s b)))).1 c 5 + cl_col (cl_sub x.2 s b (min m (x.2 s b))) c N + (if c = b then min m (x.2 s b) else 0) = Hs x.1 c 5 + cl_col (rec b (min m (x.2 s b)) (x.1, cl_sub x.2 s b (min m (x.2 s b)))).2 c N := q1
            by_cases e : c = b
            · rw [if_pos e] at q1'
              rw [if_pos ⟨hs, e⟩] at q2
              omega
            · rw [if_neg e] at q1'
              rw [if_neg (fun q => e q.2)] at q2
              omega
          obtain ⟨K2, B2⟩ := cl_loop_ok hs hrec l (m - min m (x.2 s b)) _ hl' K1.2.1 (hI.b B1)
          refine ⟨K1.tr K2, fun c hc => ?_⟩
          have := B1 c hc
          have := B2 c hc
          omega
theorem cl_up_at {ab : Nat → Bool} {s : Nat} : cl_up ab s s = true := by unfold cl_up; rw [decide_eq_true rfl, Bool.or_true]
theorem cl_go_ok {N : Nat} {P : Nat → List Nat} (hP : ∀ s, s < N → ∀ b ∈ P s, b < N) : ∀ (f : Nat) (ab : Nat → Bool), pt_c (fun x => if ab x then 0 else 1) N ≤ f → cl_R N ab (cl_go P f ab)
  | 0, ab, hc => fun b n x hb hab => by
    have := pt_c_0 (f := fun x => if ab x then 0 else 1) (f' := fun x => if cl_up ab b x then 0 else 1) (b := b) (fun z hz => by unfold cl_up; rw [decide_eq_false hz, Bool.or_false]) (by rw [hab]; decide) hb
    rw [if_neg (by rw [cl_up_at]; decide)] at this
    omega
  | f + 1, ab, hc => fun b n x hb hab hV hn hI => by
    have h1 := pt_c_0 (f := fun x => if ab x then 0 else 1) (f' := fun x => if cl_up ab b x then 0 else 1) (b := b) (fun z hz => by unfold cl_up; rw [decide_eq_false hz, Bool.or_false]) (by rw [hab]; decide) hb
    rw [if_neg (by rw [cl_up_at]; decide)] at h1
    have ih := cl_go_ok hP f (cl_up ab b) (by omega)
    rw [cl_go_c]
    have K0 : cl_K N x (h_close x.1 b n, x.2) := cl_K_close hV hn
    have I0 : cl_I N (cl_up ab b) (h_close x.1 b n, x.2) := by
      intro c hc hcab
      have hcb : ¬ c = b := fun e => by rw [e, cl_up_at] at hcab; exact absurd hcab (by decide)
      show cl_col x.2 c N ≤ Hs (h_close x.1 b n) c 5
      rw [h_close_n (by omega) (by omega)]
      exact hI c hc hcab
    obtain ⟨K1, B1⟩ := cl_loop_ok hb ih (P b) n (h_close x.1 b n, x.2) (hP b hb) K0.2.1 I0
    refine ⟨K0.tr K1, fun c hc => ?_⟩
    have q := B1 c hc
    have q' : Hs (cl_loop (cl_go P f (cl_up ab b)) (cl_up ab b) b (P b) n (h_close x.1 b n, x.2)).1 c 5 + cl_col x.2 c N = Hs (h_close x.1 b n) c 5 + cl_col (cl_loop (cl_go P f (cl_up ab b)) (cl_up ab b) b (P b) n (h_close x.1 b n, x.2)).2 c N := q
    by_cases e : c = b
    · subst e
      rw [h_close_5] at q'
      rw [if_pos rfl]
      omega
    · rw [h_close_n (by omega) (by omega)] at q'
      rw [if_neg e]
      omega
