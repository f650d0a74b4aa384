/-! MOST: ways and weights, purely -/
def ct (p : Nat → Bool) : Nat → Nat
  | 0 => 0
  | n + 1 => ct p n + if p n then 1 else 0
theorem ct_le (p : Nat → Bool) : ∀ n, ct p n ≤ n
  | 0 => Nat.le_refl 0
  | n + 1 => by
    have := ct_le p n
    show ct p n + _ ≤ _
    split <;> omega
theorem ct_mono {p q : Nat → Bool} : ∀ n, (∀ x, x < n → p x = true → q x = true) → ct p n ≤ ct q n
  | 0, _ => Nat.le_refl 0
  | n + 1, h => by
    have h1 := ct_mono n (fun x hx => h x (by omega))
    have h2 := h n (by omega)
    show ct p n + (if p n then 1 else 0) ≤ ct q n + (if q n then 1 else 0)
    cases e : p n with
    | false => simp; omega
    | true => rw [h2 e]; simp; omega
theorem ct_lt {p q : Nat → Bool} : ∀ n, (∀ x, x < n → p x = true → q x = true) → ∀ y, y < n → p y = false → q y = true → ct p n < ct q n
  | 0, _, y, hy, _, _ => absurd hy (by omega)
  | n + 1, h, y, hy, e1, e2 => by
    show ct p n + (if p n then 1 else 0) < ct q n + (if q n then 1 else 0)
    by_cases hyn : y = n
    · subst hyn
      rw [e1, e2]
      have := ct_mono y (fun x hx => h x (by omega))
      simp
      omega
    · have h1 := ct_lt n (fun x hx => h x (by omega)) y (by omega) e1 e2
      have h2 := h n (by omega)
      cases e : p n with
      | false => simp; omega
      | true => rw [h2 e]; simp; omega
theorem ct_top {p : Nat → Bool} (n y : Nat) (hy : y < n) (e : p y = false) : ct p n < n := by
  have h1 := ct_lt (p := p) (q := fun _ => true) n (fun _ _ _ => rfl) y hy e rfl
  have h2 := ct_le (fun _ => true) n
  omega
/-- a net: tails, heads, costs of arcs, which are there -/
abbrev bfG : Type := (Nat → Nat) × (Nat → Nat) × (Nat → Int) × (Nat → Prop)
abbrev bT (G : bfG) (a : Nat) : Nat := G.1 a
abbrev bH (G : bfG) (a : Nat) : Nat := G.2.1 a
abbrev bC (G : bfG) (a : Nat) : Int := G.2.2.1 a
abbrev bO (G : bfG) (a : Nat) : Prop := G.2.2.2 a
def bf_sat (G : bfG) (K : Int) (D : Nat → Int) (a : Nat) : Prop := bO G a → D (bT G a) < K → D (bH G a) ≤ D (bT G a) + bC G a
def up {α : Type} (f : Nat → α) (w : Nat) (x : α) : Nat → α := fun n => if n = w then x else f n
theorem up_at {α : Type} (f : Nat → α) (w : Nat) (x : α) : up f w x w = x := if_pos rfl
theorem up_ne {α : Type} (f : Nat → α) {w n : Nat} (x : α) (h : n ≠ w) : up f w x n = f n := if_neg h
def bf_I (G : bfG) (A : Nat) (K : Int) (D0 D : Nat → Int) (P : Nat → Option Nat) (rd t : Nat → Nat) (T k q : Nat) : Prop :=
  (∀ w a, P w = some a → a < A ∧ bO G a ∧ bH G a = w ∧ D (bT G a) < K ∧ D (bT G a) + bC G a ≤ D w ∧ (D w = D (bT G a) + bC G a → t (bT G a) < t w) ∧ rd w ≤ rd (bT G a) + 1 ∧ D w < D0 w) ∧
  (∀ w, P w = none → rd w = 0 ∧ D w = D0 w) ∧
  (∀ w, t w ≤ T ∧ rd w ≤ k ∧ D w ≤ D0 w) ∧
  (∀ a, a < q → rd (bT G a) < k → bf_sat G K D a) ∧
  (∀ a, a < A → rd (bT G a) + 1 < k → bf_sat G K D a)
section BF
variable {G : bfG} {A : Nat} {K : Int} {D0 D : Nat → Int} {P : Nat → Option Nat} {rd t : Nat → Nat} {T k q : Nat}
theorem bf_zero : bf_I G A K D0 D0 (fun _ => none) (fun _ => 0) (fun _ => 0) 0 1 0 :=
  ⟨fun _ _ e => (nomatch e), fun _ _ => ⟨rfl, rfl⟩, fun _ => ⟨Nat.le_refl 0, Nat.zero_le _, Int.le_refl _⟩, fun a h => absurd h (by omega), fun a _ h => absurd h (by omega)⟩
theorem bf_skip (h : bf_I G A K D0 D P rd t T k q) (hs : bf_sat G K D q) : bf_I G A K D0 D P rd t T k (q + 1) := by
  obtain ⟨h1, h2, h3, h4, h5⟩ := h
  refine ⟨h1, h2, h3, fun a ha hr => ?_, h5⟩
  by_cases e : a = q
  · rw [e]; exact hs
  · exact h4 a (by omega) hr
theorem bf_next (h : bf_I G A K D0 D P rd t T k A) : bf_I G A K D0 D P rd t T (k + 1) 0 := by
  obtain ⟨h1, h2, h3, h4, h5⟩ := h
  exact ⟨h1, h2, fun w => ⟨(h3 w).1, by have := (h3 w).2.1; omega, (h3 w).2.2⟩, fun a ha => absurd ha (by omega), fun a ha hr => h4 a ha (by omega)⟩
theorem bf_end (h : bf_I G A K D0 D P rd t T k A) (hn : ∀ w, rd w ≠ k) : ∀ a, a < A → bf_sat G K D a := by
  obtain ⟨h1, h2, h3, h4, h5⟩ := h
  exact fun a ha => h4 a ha (by have := (h3 (bT G a)).2.1; have := hn (bT G a); omega)
theorem bf_step (h : bf_I G A K D0 D P rd t T k q) (hq : q < A) (ho : bO G q) (hK : D (bT G q) < K) (hl : D (bT G q) + bC G q < D (bH G q)) (hne : bT G q ≠ bH G q) :
    bf_I G A K D0 (up D (bH G q) (D (bT G q) + bC G q)) (up P (bH G q) (some q)) (up rd (bH G q) k) (up t (bH G q) (T + 1)) (T + 1) k (q + 1) := by
  obtain ⟨h1, h2, h3, h4, h5⟩ := h
  have lo : ∀ w, up D (bH G q) (D (bT G q) + bC G q) w ≤ D w := by
    intro w
    by_cases e : w = bH G q
    · rw [e, up_at]; omega
    · rw [up_ne _ _ e]; exact Int.le_refl _
  have rl : ∀ w, rd w ≤ up rd (bH G q) k w := by
    intro w
    by_cases e : w = bH G q
    · rw [e, up_at]; exact (h3 _).2.1
    · rw [up_ne _ _ e]; exact Nat.le_refl _
  have sat : ∀ a, bT G a ≠ bH G q → bf_sat G K D a → bf_sat G K (up D (bH G q) (D (bT G q) + bC G q)) a := by
    intro a hn hs o hk
    rw [up_ne _ _ hn] at hk ⊢
    exact Int.le_trans (lo _) (hs o hk)
  refine ⟨fun w a hP => ?_, fun w hP => ?_, fun w => ?_, fun a ha hr => ?_, fun a ha hr => ?_⟩
  · by_cases e : w = bH G q
    · rw [e, up_at] at hP
      cases hP
      rw [e, up_at, up_at, up_at, up_ne _ _ hne, up_ne _ _ hne, up_ne _ _ hne]
      refine ⟨hq, ho, rfl, hK, Int.le_refl _, fun _ => by have := (h3 (bT G q)).1; omega, ?_, by have := (h3 (bH G q)).2.2; omega⟩
      by_cases hr : rd (bT G q) + 1 < k
      · exact absurd (h5 q hq hr ho hK) (by omega)
      · omega
    · rw [up_ne _ _ e] at hP
      obtain ⟨a1, a2, a3, a4, a5, a6, a7, a8⟩ := h1 w a hP
      rw [up_ne D _ e, up_ne rd _ e, up_ne t _ e]
      refine ⟨a1, a2, a3, Int.lt_of_le_of_lt (lo _) a4, by have := lo (bT G a); omega, fun q1 => ?_, by have := rl (bT G a); omega, a8⟩
      by_cases e2 : bT G a = bH G q
      · rw [e2, up_at] at q1
        rw [e2] at a5
        omega
      · rw [up_ne _ _ e2] at q1 ⊢
        exact a6 q1
  · by_cases e : w = bH G q
    · rw [e, up_at] at hP; cases hP
    · rw [up_ne _ _ e] at hP ⊢
      rw [up_ne _ _ e]
      exact h2 w hP
  · refine ⟨?_, ?_, Int.le_trans (lo w) (h3 w).2.2⟩
    · by_cases e : w = bH G q
      · rw [e, up_at]; exact Nat.le_refl _
      · rw [up_ne _ _ e]; have := (h3 w).1; omega
    · by_cases e : w = bH G q
      · rw [e, up_at]; exact Nat.le_refl _
      · rw [up_ne _ _ e]; exact (h3 w).2.1
  · by_cases e2 : bT G a = bH G q
    · rw [e2, up_at] at hr; exact absurd hr (Nat.lt_irrefl _)
    · rw [up_ne _ _ e2] at hr
      by_cases e : a = q
      · intro o hk
        rw [e, up_at, up_ne _ _ hne]
        exact Int.le_refl _
      · exact sat a e2 (h4 a (by omega) hr)
  · by_cases e2 : bT G a = bH G q
    · rw [e2, up_at] at hr; omega
    · rw [up_ne _ _ e2] at hr
      exact sat a e2 (h5 a ha hr)
/-- how many lie before a node, weights first, then times -/
def bf_r (D p : Nat → Int) (t : Nat → Nat) (N w : Nat) : Nat := ct (fun x => decide (D x - p x < D w - p w ∨ (D x - p x = D w - p w ∧ t x < t w))) N
theorem bf_r_lt {p : Nat → Int} {N u w : Nat} (hu : u < N) (h : D u - p u < D w - p w ∨ (D u - p u = D w - p w ∧ t u < t w)) : bf_r D p t N u < bf_r D p t N w := by
  refine ct_lt N (fun x _ hx => ?_) u hu (by simp) (by simpa using h)
  have hx := of_decide_eq_true hx
  refine decide_eq_true ?_
  omega
theorem bf_r_top {p : Nat → Int} {N w : Nat} (hw : w < N) : bf_r D p t N w < N := ct_top N w hw (by simp)
/-- a way back goes down: with weights that forbid rings -/
theorem bf_down {p : Nat → Int} {N w a : Nat} (h : bf_I G A K D0 D P rd t T k q) (hN : ∀ a, a < A → bO G a → bT G a < N ∧ bH G a < N) (hp : ∀ a, a < A → bO G a → p (bH G a) ≤ p (bT G a) + bC G a) (hP : P w = some a) : bf_r D p t N (bT G a) < bf_r D p t N w := by
  obtain ⟨a1, a2, a3, a4, a5, a6, a7, a8⟩ := h.1 w a hP
  have q1 := hp a a1 a2
  rw [a3] at q1
  refine bf_r_lt (hN a a1 a2).1 ?_
  by_cases e : D w = D (bT G a) + bC G a
  · have := a6 e; omega
  · omega
theorem bf_rank {p : Nat → Int} {N : Nat} (h : bf_I G A K D0 D P rd t T k q) (hN : ∀ a, a < A → bO G a → bT G a < N ∧ bH G a < N) (hp : ∀ a, a < A → bO G a → p (bH G a) ≤ p (bT G a) + bC G a) : ∀ n w, bf_r D p t N w < n → rd w ≤ bf_r D p t N w
  | 0, w, hn => absurd hn (by omega)
  | n + 1, w, hn => by
    cases e : P w with
    | none => have := (h.2.1 w e).1; omega
    | some a =>
      have h1 := bf_down h hN hp e
      have h2 := bf_rank h hN hp n (bT G a) (by omega)
      have h3 := (h.1 w a e).2.2.2.2.2.2.1
      omega
end BF
/-! sums -/
def sm (f : Nat → Int) : Nat → Int
  | 0 => 0
  | n + 1 => sm f n + f n
theorem sm_add (f h : Nat → Int) : ∀ n, sm (fun i => f i + h i) n = sm f n + sm h n
  | 0 => rfl
  | n + 1 => by
    show sm _ n + (f n + h n) = sm f n + f n + (sm h n + h n)
    rw [sm_add f h n]; omega
theorem sm_le {f h : Nat → Int} : ∀ n, (∀ i, i < n → f i ≤ h i) → sm f n ≤ sm h n
  | 0, _ => Int.le_refl _
  | n + 1, e => by
    have h1 := sm_le n (fun i hi => e i (by omega))
    have h2 := e n (by omega)
    show sm f n + f n ≤ sm h n + h n
    omega
theorem sm_eq {f h : Nat → Int} : ∀ n, (∀ i, i < n → f i = h i) → sm f n = sm h n
  | 0, _ => rfl
  | n + 1, e => by
    show sm f n + f n = sm h n + h n
    rw [sm_eq n (fun i hi => e i (by omega)), e n (by omega)]
theorem sm_0 : ∀ n, sm (fun _ => 0) n = 0
  | 0 => rfl
  | n + 1 => by show sm _ n + 0 = 0; rw [sm_0 n]; rfl
theorem sm_up {f : Nat → Int} {w : Nat} {x : Int} : ∀ n, sm (up f w x) n = sm f n + if w < n then x - f w else 0
  | 0 => by simp [sm]
  | n + 1 => by
    show sm (up f w x) n + up f w x n = sm f n + f n + _
    rw [sm_up n]
    by_cases e : w = n
    · subst e
      rw [up_at, if_neg (by omega), if_pos (by omega)]; omega
    · rw [up_ne _ _ (fun q => e q.symm)]
      by_cases hw : w < n
      · rw [if_pos hw, if_pos (by omega)]; omega
      · rw [if_neg hw, if_neg (by omega)]; omega
/-! the most, as a linear problem: m sales (seller, buyer, limit, gain), n dealers (stock) -/
abbrev lpT : Type := (Nat → Nat) × (Nat → Nat) × (Nat → Int) × (Nat → Int) × (Nat → Int)
abbrev lS (L : lpT) (i : Nat) : Nat := L.1 i
abbrev lB (L : lpT) (i : Nat) : Nat := L.2.1 i
abbrev lL (L : lpT) (i : Nat) : Int := L.2.2.1 i
abbrev lG (L : lpT) (i : Nat) : Int := L.2.2.2.1 i
abbrev lK (L : lpT) (d : Nat) : Int := L.2.2.2.2 d
def lp_h (L : lpT) (x : Nat → Int) (d i : Nat) : Int := (if lB L i = d then x i else 0) - (if lS L i = d then x i else 0)
/-- what a dealer has left -/
def lp_sp (L : lpT) (m : Nat) (x : Nat → Int) (d : Nat) : Int := lK L d + sm (lp_h L x d) m
def lp_V (L : lpT) (m : Nat) (x : Nat → Int) : Int := sm (fun i => lG L i * x i) m
def lp_F (L : lpT) (n m : Nat) (x : Nat → Int) : Prop := (∀ i, i < m → 0 ≤ x i ∧ x i ≤ lL L i) ∧ ∀ d, d < n → 0 ≤ lp_sp L m x d
def lp_O (L : lpT) (n m : Nat) (x p : Nat → Int) : Prop := lp_F L n m x ∧ (∀ i, i < m → (0 < x i → p (lS L i) - p (lB L i) ≤ lG L i) ∧ (x i < lL L i → lG L i ≤ p (lS L i) - p (lB L i))) ∧ ∀ d, d < n → 0 ≤ p d ∧ (0 < lp_sp L m x d → p d = 0)
theorem sm_one (p : Nat → Int) (b : Nat) (y : Int) : ∀ n, sm (fun d => p d * (if b = d then y else 0)) n = if b < n then p b * y else 0
  | 0 => by simp [sm]
  | n + 1 => by
    show sm _ n + p n * (if b = n then y else 0) = _
    rw [sm_one p b y n]
    by_cases e : b = n
    · subst e
      rw [if_pos rfl, if_neg (by omega), if_pos (by omega)]; omega
    · rw [if_neg e, Int.mul_zero, Int.add_zero]
      by_cases hb : b < n
      · rw [if_pos hb, if_pos (by omega)]
      · rw [if_neg hb, if_neg (by omega)]
theorem sm_sub (f h : Nat → Int) : ∀ n, sm (fun i => f i - h i) n = sm f n - sm h n
  | 0 => rfl
  | n + 1 => by
    show sm _ n + (f n - h n) = sm f n + f n - (sm h n + h n)
    rw [sm_sub f h n]; omega
theorem lp_swap {L : lpT} {n : Nat} (p y : Nat → Int) : ∀ m, (∀ i, i < m → lS L i < n ∧ lB L i < n) → sm (fun d => p d * lp_sp L m y d) n = sm (fun d => p d * lK L d) n + sm (fun i => (p (lB L i) - p (lS L i)) * y i) m
  | 0, _ => by
    show sm (fun d => p d * (lK L d + 0)) n = _ + 0
    rw [Int.add_zero]
    exact sm_eq n (fun d _ => by rw [Int.add_zero])
  | m + 1, h => by
    have ih := lp_swap (L := L) p y m (fun i hi => h i (by omega))
    have e : sm (fun d => p d * lp_sp L (m + 1) y d) n = sm (fun d => p d * lp_sp L m y d + (p d * (if lB L m = d then y m else 0) - p d * (if lS L m = d then y m else 0))) n := by
      refine sm_eq n (fun d _ => ?_)
      show p d * (lK L d + (sm (lp_h L y d) m + ((if lB L m = d then y m else 0) - (if lS L m = d then y m else 0)))) = p d * (lK L d + sm (lp_h L y d) m) + _
      rw [← Int.add_assoc, Int.mul_add, Int.mul_sub]
    rw [e, sm_add, sm_sub, sm_one, sm_one, ih, if_pos (h m (by omega)).2, if_pos (h m (by omega)).1]
    show _ = _ + (sm _ m + (p (lB L m) - p (lS L m)) * y m)
    rw [Int.sub_mul]; omega
theorem lp_weak {L : lpT} {n m : Nat} {x p y : Nat → Int} (hr : ∀ i, i < m → lS L i < n ∧ lB L i < n) (hO : lp_O L n m x p) (hF : lp_F L n m y) : lp_V L m y ≤ lp_V L m x := by
  obtain ⟨⟨f1, f2⟩, o1, o2⟩ := hO
  have z : sm (fun d => p d * lp_sp L m x d) n = 0 := by
    rw [← sm_0 n]
    refine sm_eq n (fun d hd => ?_)
    have h1 := f2 d hd
    by_cases e : 0 < lp_sp L m x d
    · show p d * _ = 0
      rw [(o2 d hd).2 e, Int.zero_mul]
    · have e2 : lp_sp L m x d = 0 := by omega
      show p d * lp_sp L m x d = 0
      rw [e2, Int.mul_zero]
  have y0 : 0 ≤ sm (fun d => p d * lp_sp L m y d) n := by
    rw [← sm_0 n]
    exact sm_le n (fun d hd => Int.mul_nonneg (o2 d hd).1 (hF.2 d hd))
  rw [lp_swap p x m hr] at z
  rw [lp_swap p y m hr] at y0
  have sp : ∀ u : Nat → Int, lp_V L m u = sm (fun i => (lG L i - (p (lS L i) - p (lB L i))) * u i) m - sm (fun i => (p (lB L i) - p (lS L i)) * u i) m := by
    intro u
    rw [← sm_sub]
    refine sm_eq m (fun i _ => ?_)
    show lG L i * u i = _
    rw [← Int.sub_mul]
    congr 1
    omega
  have c : sm (fun i => (lG L i - (p (lS L i) - p (lB L i))) * y i) m ≤ sm (fun i => (lG L i - (p (lS L i) - p (lB L i))) * x i) m := by
    refine sm_le m (fun i hi => ?_)
    obtain ⟨y1, y2⟩ := hF.1 i hi
    obtain ⟨x1, x2⟩ := f1 i hi
    obtain ⟨c1, c2⟩ := o1 i hi
    by_cases e1 : 0 < lG L i - (p (lS L i) - p (lB L i))
    · have e2 : x i = lL L i := by
        by_cases e3 : x i < lL L i
        · have := c2 e3; omega
        · omega
      exact Int.mul_le_mul_of_nonneg_left (by omega) (by omega)
    · by_cases e2 : lG L i - (p (lS L i) - p (lB L i)) < 0
      · have e3 : x i = 0 := by
          by_cases e3 : 0 < x i
          · have := c1 e3; omega
          · omega
        rw [e3, Int.mul_zero]
        exact Int.mul_nonpos_of_nonpos_of_nonneg (by omega) y1
      · have e3 : lG L i - (p (lS L i) - p (lB L i)) = 0 := by omega
        show (lG L i - (p (lS L i) - p (lB L i))) * y i ≤ (lG L i - (p (lS L i) - p (lB L i))) * x i
        rw [e3, Int.zero_mul, Int.zero_mul]
        exact Int.le_refl _
  rw [sp x, sp y]
  omega
theorem lp_same {L : lpT} {n m : Nat} {x p y r : Nat → Int} (hr : ∀ i, i < m → lS L i < n ∧ lB L i < n) (hO : lp_O L n m x p) (hF : lp_O L n m y r) : lp_V L m x = lp_V L m y :=
  Int.le_antisymm (lp_weak hr hF hO.1) (lp_weak hr hO hF.1)
