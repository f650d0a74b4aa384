/-! MOST: what the class does, purely -/
def mo_N (L : lpT) (x : Nat → Int) : bfG := (fun a => if a % 2 = 0 then lS L (a / 2) else lB L (a / 2), fun a => if a % 2 = 0 then lB L (a / 2) else lS L (a / 2), fun a => if a % 2 = 0 then lG L (a / 2) else -(lG L (a / 2)), fun a => if a % 2 = 0 then 0 < x (a / 2) else x (a / 2) < lL L (a / 2))
theorem mo_e {L : lpT} {x : Nat → Int} (i : Nat) : bT (mo_N L x) (2 * i) = lS L i ∧ bH (mo_N L x) (2 * i) = lB L i ∧ bC (mo_N L x) (2 * i) = lG L i ∧ (bO (mo_N L x) (2 * i) ↔ 0 < x i) := by
  have e1 : 2 * i % 2 = 0 := by omega
  have e2 : 2 * i / 2 = i := by omega
  refine ⟨?_, ?_, ?_, ?_⟩ <;> simp [bT, bH, bC, bO, mo_N, e1, e2]
theorem mo_o {L : lpT} {x : Nat → Int} (i : Nat) : bT (mo_N L x) (2 * i + 1) = lB L i ∧ bH (mo_N L x) (2 * i + 1) = lS L i ∧ bC (mo_N L x) (2 * i + 1) = -(lG L i) ∧ (bO (mo_N L x) (2 * i + 1) ↔ x i < lL L i) := by
  have e1 : ¬ (2 * i + 1) % 2 = 0 := by omega
  have e2 : (2 * i + 1) / 2 = i := by omega
  refine ⟨?_, ?_, ?_, ?_⟩ <;> simp [bT, bH, bC, bO, mo_N, e2]
theorem mo_2 (a : Nat) : (∃ i, a = 2 * i) ∨ ∃ i, a = 2 * i + 1 := by
  by_cases h : a % 2 = 0
  · exact Or.inl ⟨a / 2, by omega⟩
  · exact Or.inr ⟨a / 2, by omega⟩
/-- a fit problem -/
def lp_K (L : lpT) (n m : Nat) : Prop := n ≤ 8 ∧ m ≤ 24 ∧ (∀ i, i < m → lS L i < n ∧ lB L i < n ∧ lS L i ≠ lB L i ∧ 0 ≤ lL L i ∧ lL L i ≤ 1000 ∧ 0 ≤ lG L i ∧ lG L i ≤ 10000) ∧ ∀ d, d < n → 0 ≤ lK L d ∧ lK L d ≤ 200000
/-- what holds between the class's rounds -/
def mo_I (L : lpT) (n m : Nat) (x p : Nat → Int) (M : Int) : Prop := (∀ i, i < m → 0 ≤ x i ∧ x i ≤ lL L i ∧ (0 < x i → p (lS L i) - p (lB L i) ≤ lG L i) ∧ (x i < lL L i → lG L i ≤ p (lS L i) - p (lB L i))) ∧ (∀ d, d < n → 0 ≤ p d ∧ p d ≤ M ∧ (lp_sp L m x d < 0 → p d = M) ∧ (0 < lp_sp L m x d → p d = 0)) ∧ M ≤ 1000000000
def mo_D (L : lpT) (m : Nat) (x : Nat → Int) (d : Nat) : Int := if lp_sp L m x d < 0 then 0 else 1000000000
theorem mo_I.arcs {L : lpT} {n m : Nat} {x p : Nat → Int} {M : Int} (hI : mo_I L n m x p M) : ∀ a, a < 2 * m → bO (mo_N L x) a → -(p (bH (mo_N L x) a)) ≤ -(p (bT (mo_N L x) a)) + bC (mo_N L x) a := by
  intro a ha ho
  rcases mo_2 a with ⟨i, rfl⟩ | ⟨i, rfl⟩
  · obtain ⟨e1, e2, e3, e4⟩ := mo_e (L := L) (x := x) i
    have := (hI.1 i (by omega)).2.2.1 (e4.mp ho)
    rw [e1, e2, e3]; omega
  · obtain ⟨e1, e2, e3, e4⟩ := mo_o (L := L) (x := x) i
    have := (hI.1 i (by omega)).2.2.2 (e4.mp ho)
    rw [e1, e2, e3]; omega
theorem lp_K.ends {L : lpT} {n m : Nat} {x : Nat → Int} (hK : lp_K L n m) : ∀ a, a < 2 * m → bT (mo_N L x) a < n ∧ bH (mo_N L x) a < n ∧ bT (mo_N L x) a ≠ bH (mo_N L x) a ∧ -10000 ≤ bC (mo_N L x) a ∧ bC (mo_N L x) a ≤ 10000 := by
  intro a ha
  rcases mo_2 a with ⟨i, rfl⟩ | ⟨i, rfl⟩
  · obtain ⟨e1, e2, e3, e4⟩ := mo_e (L := L) (x := x) i
    obtain ⟨k1, k2, k3, k4, k5, k6, k7⟩ := hK.2.2.1 i (by omega)
    rw [e1, e2, e3]
    exact ⟨k1, k2, k3, by omega, by omega⟩
  · obtain ⟨e1, e2, e3, e4⟩ := mo_o (L := L) (x := x) i
    obtain ⟨k1, k2, k3, k4, k5, k6, k7⟩ := hK.2.2.1 i (by omega)
    rw [e1, e2, e3]
    exact ⟨k2, k1, k3.symm, by omega, by omega⟩
theorem sm_nn {f : Nat → Int} (n : Nat) (h : ∀ i, i < n → 0 ≤ f i) : 0 ≤ sm f n := by
  have h1 := sm_le (f := fun _ => 0) (h := f) n h
  rw [sm_0] at h1
  exact h1
section MO
variable {L : lpT} {n m : Nat} {x p : Nat → Int} {M : Int} {D : Nat → Int} {P : Nat → Option Nat} {rd t : Nat → Nat} {T k q : Nat}
/-- weights never fall below what the prices say -/
theorem mo_low (hK : lp_K L n m) (hI : mo_I L n m x p M) (h : bf_I (mo_N L x) (2 * m) 1000000000 (mo_D L m x) D P rd t T k q) : ∀ r w, bf_r D (fun d => -(p d)) t n w < r → w < n → M ≤ D w + p w
  | 0, w, hn, _ => absurd hn (by omega)
  | r + 1, w, hn, hw => by
    cases e : P w with
    | none =>
      have h1 := (h.2.1 w e).2
      obtain ⟨p1, p2, p3, p4⟩ := hI.2.1 w hw
      unfold mo_D at h1
      by_cases s : lp_sp L m x w < 0
      · rw [if_pos s] at h1; have := p3 s; omega
      · rw [if_neg s] at h1; have := hI.2.2; omega
    | some a =>
      have h1 := bf_down (p := fun d => -(p d)) h (fun a ha _ => ⟨(hK.ends a ha).1, (hK.ends a ha).2.1⟩) (fun a ha ho => hI.arcs a ha ho) e
      obtain ⟨a1, a2, a3, a4, a5, a6, a7, a8⟩ := h.1 w a e
      have h2 := mo_low hK hI h r (bT (mo_N L x) a) (by omega) (hK.ends a a1).1
      have h3 := hI.arcs a a1 a2
      rw [a3] at h3
      omega
theorem mo_pos (hK : lp_K L n m) (hI : mo_I L n m x p M) (h : bf_I (mo_N L x) (2 * m) 1000000000 (mo_D L m x) D P rd t T k q) {w : Nat} (hw : w < n) : 0 ≤ D w ∧ D w ≤ 1000000000 ∧ M ≤ D w + p w := by
  have h1 := mo_low hK hI h _ w (Nat.lt_succ_self _) hw
  have h2 := (hI.2.1 w hw).2.1
  have h3 := (h.2.2.1 w).2.2
  refine ⟨by omega, ?_, h1⟩
  unfold mo_D at h3
  split at h3 <;> omega
theorem mo_rd (hK : lp_K L n m) (hI : mo_I L n m x p M) (h : bf_I (mo_N L x) (2 * m) 1000000000 (mo_D L m x) D P rd t T k q) : ∀ w, rd w < 8 := by
  intro w
  have h1 := bf_rank (p := fun d => -(p d)) h (N := n) (fun a ha _ => ⟨(hK.ends a ha).1, (hK.ends a ha).2.1⟩) (fun a ha ho => hI.arcs a ha ho) _ w (Nat.lt_succ_self _)
  have h8 := hK.1
  cases e : P w with
  | none => have := (h.2.1 w e).1; omega
  | some a =>
    obtain ⟨a1, a2, a3, _⟩ := h.1 w a e
    have hw : w < n := by rw [← a3]; exact (hK.ends a a1).2.1
    have := bf_r_top (D := D) (p := fun d => -(p d)) (t := t) hw
    omega
/-- weighed: all ways at their least -/
def mo_W (L : lpT) (n m : Nat) (x : Nat → Int) (D : Nat → Int) (P : Nat → Option Nat) (t : Nat → Nat) : Prop :=
  (∀ a, a < 2 * m → bf_sat (mo_N L x) 1000000000 D a) ∧
  (∀ w a, P w = some a → a < 2 * m ∧ bO (mo_N L x) a ∧ bH (mo_N L x) a = w ∧ D w = D (bT (mo_N L x) a) + bC (mo_N L x) a ∧ t (bT (mo_N L x) a) < t w ∧ D (bT (mo_N L x) a) < 1000000000) ∧
  (∀ w, P w = none → D w = mo_D L m x w) ∧ (∀ w, w < n → lp_sp L m x w < 0 → D w = 0) ∧ ∀ w, w < n → 0 ≤ D w
theorem mo_done (hK : lp_K L n m) (hI : mo_I L n m x p M) (h : bf_I (mo_N L x) (2 * m) 1000000000 (mo_D L m x) D P rd t T k (2 * m)) (hn : ∀ w, rd w ≠ k) : mo_W L n m x D P t ∧ ∀ w, w < n → M ≤ D w + p w := by
  have hs := bf_end h hn
  refine ⟨⟨hs, fun w a e => ?_, fun w e => (h.2.1 w e).2, fun w hw s => ?_, fun w hw => (mo_pos hK hI h hw).1⟩, fun w hw => (mo_pos hK hI h hw).2.2⟩
  · obtain ⟨a1, a2, a3, a4, a5, a6, a7, a8⟩ := h.1 w a e
    have h1 := hs a a1 a2 a4
    rw [a3] at h1
    have e1 : D w = D (bT (mo_N L x) a) + bC (mo_N L x) a := by omega
    exact ⟨a1, a2, a3, e1, a6 e1, a4⟩
  · have h1 := (mo_pos hK hI h hw).1
    have h2 := (h.2.2.1 w).2.2
    unfold mo_D at h2
    rw [if_pos s] at h2
    omega
/-- the way back: arcs from a node to where it came from at last -/
def mo_P (L : lpT) (x : Nat → Int) (P : Nat → Option Nat) (z : Nat) : Nat → List Nat → Prop
  | w, [] => w = z ∧ P w = none
  | w, a :: l => P w = some a ∧ mo_P L x P z (bT (mo_N L x) a) l
theorem mo_path (hK : lp_K L n m) (hW : mo_W L n m x D P t) : ∀ r w, ct (fun y => decide (t y < t w)) n < r → w < n → D w < 1000000000 → ∃ z l, mo_P L x P z w l ∧ l.length ≤ ct (fun y => decide (t y < t w)) n ∧ z < n ∧ lp_sp L m x z < 0 ∧ D w ≤ 10000 * (ct (fun y => decide (t y < t w)) n : Int)
  | 0, w, hn, _, _ => absurd hn (by omega)
  | r + 1, w, hn, hw, hD => by
    cases e : P w with
    | none =>
      have h1 := hW.2.2.1 w e
      unfold mo_D at h1
      by_cases s : lp_sp L m x w < 0
      · rw [if_pos s] at h1
        exact ⟨w, [], ⟨rfl, e⟩, Nat.zero_le _, hw, s, by omega⟩
      · rw [if_neg s] at h1; omega
    | some a =>
      obtain ⟨a1, a2, a3, a4, a5, a6⟩ := hW.2.1 w a e
      obtain ⟨k1, k2, k3, k4, k5⟩ := hK.ends (x := x) a a1
      have hc : ct (fun y => decide (t y < t (bT (mo_N L x) a))) n < ct (fun y => decide (t y < t w)) n := by
        refine ct_lt n (fun y _ hy => ?_) _ k1 (by simp) (by simpa using a5)
        have := of_decide_eq_true hy
        exact decide_eq_true (by omega)
      obtain ⟨z, l, l1, l2, l3, l4, l5⟩ := mo_path hK hW r (bT (mo_N L x) a) (by omega) k1 a6
      refine ⟨z, a :: l, ⟨e, l1⟩, by simp only [List.length_cons]; omega, l3, l4, by omega⟩
/-- units that an arc still bears, and which way it changes its sale -/
def mo_r (L : lpT) (x : Nat → Int) (a : Nat) : Int := if a % 2 = 0 then x (a / 2) else lL L (a / 2) - x (a / 2)
def mo_g (a : Nat) : Int := if a % 2 = 0 then -1 else 1
def mo_p (x : Nat → Int) (u : Int) : List Nat → Nat → Int
  | [] => x
  | a :: l => mo_p (up x (a / 2) (x (a / 2) + mo_g a * u)) u l
theorem mo_P.facts (hW : mo_W L n m x D P t) {z : Nat} : ∀ l w, mo_P L x P z w l → ∀ a ∈ l, a < 2 * m ∧ bO (mo_N L x) a ∧ t (bH (mo_N L x) a) ≤ t w ∧ t (bT (mo_N L x) a) < t (bH (mo_N L x) a) ∧ D (bH (mo_N L x) a) = D (bT (mo_N L x) a) + bC (mo_N L x) a ∧ D (bT (mo_N L x) a) < 1000000000
  | [], _, _, a, h => by cases h
  | b :: l, w, hp, a, h => by
    obtain ⟨a1, a2, a3, a4, a5, a6⟩ := hW.2.1 w b hp.1
    rcases List.mem_cons.mp h with rfl | h
    · rw [a3]; exact ⟨a1, a2, Nat.le_refl _, a5, a4, a6⟩
    · obtain ⟨b1, b2, b3, b4, b5, b6⟩ := mo_P.facts hW l _ hp.2 a h
      exact ⟨b1, b2, by omega, b4, b5, b6⟩
theorem mo_P.nd (hW : mo_W L n m x D P t) {z : Nat} : ∀ l w, mo_P L x P z w l → (l.map (fun a => a / 2)).Nodup
  | [], _, _ => List.nodup_nil
  | b :: l, w, hp => by
    refine List.nodup_cons.mpr ⟨fun h => ?_, mo_P.nd hW l _ hp.2⟩
    obtain ⟨a, ha, e⟩ := List.mem_map.mp h
    obtain ⟨a1, a2, a3, a4, a5, a6⟩ := hW.2.1 w b hp.1
    obtain ⟨b1, b2, b3, b4, b5, b6⟩ := mo_P.facts hW l _ hp.2 a ha
    have e : a / 2 = b / 2 := e
    rw [← a3] at a5
    rcases mo_2 a with ⟨i, rfl⟩ | ⟨i, rfl⟩ <;> rcases mo_2 b with ⟨j, rfl⟩ | ⟨j, rfl⟩
    · have : i = j := by omega
      subst this; omega
    · have : i = j := by omega
      subst this
      rw [(mo_e i).1, (mo_e i).2.1] at b4
      rw [(mo_e i).2.1, (mo_o i).1] at b3
      rw [(mo_o i).1, (mo_o i).2.1] at a5
      omega
    · have : i = j := by omega
      subst this
      rw [(mo_o i).1, (mo_o i).2.1] at b4
      rw [(mo_o i).2.1, (mo_e i).1] at b3
      rw [(mo_e i).1, (mo_e i).2.1] at a5
      omega
    · have : i = j := by omega
      subst this; omega
theorem mo_p_out {u : Int} {i : Nat} : ∀ (l : List Nat) (x : Nat → Int), i ∉ l.map (fun a => a / 2) → mo_p x u l i = x i
  | [], _, _ => rfl
  | a :: l, x, h => by
    show mo_p (up x (a / 2) _) u l i = _
    rw [mo_p_out l _ (fun q => h (List.mem_cons_of_mem _ q)), up_ne _ _ (fun q => h (by rw [q]; exact List.mem_cons_self))]
theorem mo_p_in {u : Int} : ∀ (l : List Nat) (x : Nat → Int), (l.map (fun a => a / 2)).Nodup → ∀ a ∈ l, mo_p x u l (a / 2) = x (a / 2) + mo_g a * u
  | [], _, _, a, h => by cases h
  | b :: l, x, hn, a, h => by
    obtain ⟨n1, n2⟩ := List.nodup_cons.mp hn
    show mo_p (up x (b / 2) _) u l (a / 2) = _
    rcases List.mem_cons.mp h with rfl | h
    · rw [mo_p_out l _ n1, up_at]
    · rw [mo_p_in l _ n2 a h, up_ne _ _ (fun q => n1 (List.mem_map.mpr ⟨a, h, q⟩))]
/-- a change of one sale moves units from head to tail -/
theorem lp_sp_up {i : Nat} (hi : i < m) (y : Int) (d : Nat) : lp_sp L m (up x i y) d = lp_sp L m x d + ((if lB L i = d then y - x i else 0) - (if lS L i = d then y - x i else 0)) := by
  have e : lp_h L (up x i y) d = up (lp_h L x d) i ((if lB L i = d then y else 0) - (if lS L i = d then y else 0)) := by
    funext j
    by_cases e : j = i
    · subst e; rw [up_at]; unfold lp_h; rw [up_at]
    · rw [up_ne _ _ e]; unfold lp_h; rw [up_ne _ _ e]
  unfold lp_sp
  rw [e, sm_up, if_pos hi]
  unfold lp_h
  split <;> split <;> omega
theorem mo_p_sp {u : Int} {z : Nat} (hm : ∀ w a, P w = some a → a < 2 * m ∧ bH (mo_N L x) a = w) : ∀ (l : List Nat) (w : Nat) (y : Nat → Int), mo_P L x P z w l → ∀ d, lp_sp L m (mo_p y u l) d = lp_sp L m y d + ((if d = z then u else 0) - (if d = w then u else 0))
  | [], w, y, h, d => by
    show lp_sp L m y d = _
    rw [h.1]; omega
  | a :: l, w, y, h, d => by
    obtain ⟨a1, a2⟩ := hm w a h.1
    show lp_sp L m (mo_p (up y (a / 2) _) u l) d = _
    rw [mo_p_sp hm l _ _ h.2 d, lp_sp_up (by omega)]
    rcases mo_2 a with ⟨i, rfl⟩ | ⟨i, rfl⟩
    · rw [(mo_e i).2.1] at a2
      have e2 : 2 * i / 2 = i := by omega
      have e3 : mo_g (2 * i) = -1 := if_pos (by omega)
      rw [(mo_e i).1, e2, e3, ← a2]
      have t1 : (lB L i = d) = (d = lB L i) := propext ⟨Eq.symm, Eq.symm⟩
      have t2 : (lS L i = d) = (d = lS L i) := propext ⟨Eq.symm, Eq.symm⟩
      simp only [t1, t2]
      split <;> split <;> split <;> omega
    · rw [(mo_o i).2.1] at a2
      have e2 : (2 * i + 1) / 2 = i := by omega
      have e3 : mo_g (2 * i + 1) = 1 := if_neg (by omega)
      rw [(mo_o i).1, e2, e3, ← a2]
      have t1 : (lB L i = d) = (d = lB L i) := propext ⟨Eq.symm, Eq.symm⟩
      have t2 : (lS L i = d) = (d = lS L i) := propext ⟨Eq.symm, Eq.symm⟩
      simp only [t1, t2]
      split <;> split <;> split <;> omega
/-- path's nodes lie under the end -/
theorem mo_under (hK : lp_K L n m) (hI : mo_I L n m x p M) (hW : mo_W L n m x D P t) {z : Nat} {E : Int} : ∀ l w, mo_P L x P z w l → D w + p w ≤ E → ∀ a ∈ l, D (bH (mo_N L x) a) + p (bH (mo_N L x) a) ≤ E ∧ D (bT (mo_N L x) a) + p (bT (mo_N L x) a) ≤ E
  | [], _, _, _, a, h => by cases h
  | b :: l, w, hp, hE, a, h => by
    obtain ⟨a1, a2, a3, a4, a5, a6⟩ := hW.2.1 w b hp.1
    have h1 := hI.arcs b a1 a2
    rw [a3] at h1
    have h2 : D (bT (mo_N L x) b) + p (bT (mo_N L x) b) ≤ E := by omega
    rcases List.mem_cons.mp h with rfl | h
    · rw [a3]; exact ⟨hE, h2⟩
    · exact mo_under hK hI hW l _ hp.2 h2 a h
/-- one round keeps what holds -/
theorem mo_round (hK : lp_K L n m) (hI : mo_I L n m x p M) (hW : mo_W L n m x D P t) (hM : ∀ w, w < n → M ≤ D w + p w) {e z : Nat} {l : List Nat} {u : Int} (he : e < n) (hz : z < n) (hs : 0 < lp_sp L m x e) (hD : D e < 1000000000) (hmin : ∀ d, d < n → 0 < lp_sp L m x d → D e ≤ D d) (hP : mo_P L x P z e l) (h0 : 0 < u) (hu : u ≤ lp_sp L m x e) (hr : ∀ a ∈ l, u ≤ mo_r L x a) (hzs : u ≤ -(lp_sp L m x z)) :
    mo_I L n m (mo_p x u l) (fun d => if p d ≤ D e - D d then D e - D d else p d) (D e) := by
  have ez : e ≠ z := fun q => by rw [q] at hs; omega
  have hsp := mo_p_sp (u := u) (L := L) (x := x) (m := m) (P := P) (fun w a q => ⟨(hW.2.1 w a q).1, (hW.2.1 w a q).2.2.1⟩) l e x hP
  have hnd := mo_P.nd hW l e hP
  have hf := mo_P.facts hW l e hP
  have hun := mo_under hK hI hW (E := D e) l e hP (by have := (hI.2.1 e he).2.2.2 hs; omega)
  refine ⟨fun i hi => ?_, fun d hd => ?_, by omega⟩
  · obtain ⟨x1, x2, x3, x4⟩ := hI.1 i hi
    obtain ⟨k1, k2, k3, k4, k5, k6, k7⟩ := hK.2.2.1 i hi
    by_cases hin : i ∈ l.map (fun a => a / 2)
    · obtain ⟨a, ha, rfl⟩ := List.mem_map.mp hin
      rw [mo_p_in l x hnd a ha]
      obtain ⟨f1, f2, f3, f4, f5, f6⟩ := hf a ha
      obtain ⟨g1, g2⟩ := hun a ha
      have hra := hr a ha
      rcases mo_2 a with ⟨i, rfl⟩ | ⟨i, rfl⟩
      · have e2 : 2 * i / 2 = i := by omega
        have e3 : mo_g (2 * i) = -1 := if_pos (by omega)
        have e4 : mo_r L x (2 * i) = x (2 * i / 2) := if_pos (by omega)
        rw [e4, e2] at hra
        rw [(mo_e i).2.1] at g1
        rw [(mo_e i).1] at g2
        rw [(mo_e i).1, (mo_e i).2.1, (mo_e i).2.2.1] at f5
        simp only [e2] at x1 x2 ⊢
        rw [e3, if_pos (by omega), if_pos (by omega)]
        exact ⟨by omega, by omega, fun _ => by omega, fun _ => by omega⟩
      · have e2 : (2 * i + 1) / 2 = i := by omega
        have e3 : mo_g (2 * i + 1) = 1 := if_neg (by omega)
        have e4 : mo_r L x (2 * i + 1) = lL L ((2 * i + 1) / 2) - x ((2 * i + 1) / 2) := if_neg (by omega)
        rw [e4, e2] at hra
        rw [(mo_o i).2.1] at g1
        rw [(mo_o i).1] at g2
        rw [(mo_o i).1, (mo_o i).2.1, (mo_o i).2.2.1] at f5
        simp only [e2] at x1 x2 ⊢
        rw [e3, if_pos (by omega), if_pos (by omega)]
        exact ⟨by omega, by omega, fun _ => by omega, fun _ => by omega⟩
    · rw [mo_p_out l x hin]
      have ps := (hI.2.1 _ k1).1
      have pb := (hI.2.1 _ k2).1
      refine ⟨x1, x2, fun hx => ?_, fun hx => ?_⟩
      · have h1 := x3 hx
        have h2 := hW.1 (2 * i) (by omega)
        unfold bf_sat at h2
        rw [(mo_e i).1, (mo_e i).2.1, (mo_e i).2.2.1] at h2
        have h2 := h2 ((mo_e i).2.2.2.mpr hx)
        try dsimp only
        split
        · have := h2 (by omega)
          split <;> omega
        · split <;> omega
      · have h1 := x4 hx
        have h2 := hW.1 (2 * i + 1) (by omega)
        unfold bf_sat at h2
        rw [(mo_o i).1, (mo_o i).2.1, (mo_o i).2.2.1] at h2
        have h2 := h2 ((mo_o i).2.2.2.mpr hx)
        try dsimp only
        by_cases c : p (lB L i) ≤ D e - D (lB L i)
        · have := h2 (by omega)
          rw [if_pos c]
          split <;> omega
        · rw [if_neg c]
          split <;> omega
  · obtain ⟨p1, p2, p3, p4⟩ := hI.2.1 d hd
    have d0 := hW.2.2.2.2 d hd
    have m1 := hM d hd
    have me := hM e he
    have pe := (hI.2.1 e he).2.2.2 hs
    have hd1 := hsp d
    try dsimp only
    refine ⟨by split <;> omega, by split <;> omega, fun hs1 => ?_, fun hs1 => ?_⟩
    · have : lp_sp L m x d < 0 := by
        by_cases c1 : d = z
        · rw [c1]; omega
        · by_cases c2 : d = e
          · rw [c2] at hd1 hs1; rw [if_neg ez, if_pos rfl] at hd1; omega
          · rw [if_neg c1, if_neg c2] at hd1; omega
      have h1 := hW.2.2.2.1 d hd this
      have h2 := p3 this
      rw [h1]
      split <;> omega
    · have : 0 < lp_sp L m x d := by
        by_cases c1 : d = z
        · rw [c1] at hd1 hs1; rw [if_pos rfl, if_neg (fun q => ez q.symm)] at hd1; omega
        · by_cases c2 : d = e
          · rw [c2]; exact hs
          · rw [if_neg c1, if_neg c2] at hd1; omega
      have h1 := hmin d hd this
      have h2 := p4 this
      rw [h2]
      split <;> omega
/-- an end there is -/
theorem mo_some (hK : lp_K L n m) (hx : ∀ i, i < m → 0 ≤ x i ∧ x i ≤ lL L i) (hW : mo_W L n m x D P t) {z : Nat} (hz : z < n) (hs : lp_sp L m x z < 0) (hno : ∀ d, d < n → 0 < lp_sp L m x d → 1000000000 ≤ D d) : False := by
  have h8 := hK.1
  have small : ∀ w, w < n → D w < 1000000000 → D w ≤ 80000 := by
    intro w hw hD
    obtain ⟨_, _, _, _, _, _, h5⟩ := mo_path hK hW _ w (Nat.lt_succ_self _) hw hD
    have := ct_le (fun y => decide (t y < t w)) n
    omega
  have sw := lp_swap (L := L) (n := n) (fun d => if D d < 1000000000 then 1 else 0) x m (fun i hi => ⟨(hK.2.2.1 i hi).1, (hK.2.2.1 i hi).2.1⟩)
  have r1 : 0 ≤ sm (fun d => (if D d < 1000000000 then 1 else 0) * lK L d) n := by
    refine sm_nn n (fun d hd => ?_)
    have := (hK.2.2.2 d hd).1
    try dsimp only
    split <;> omega
  have r2 : 0 ≤ sm (fun i => ((if D (lB L i) < 1000000000 then 1 else 0) - (if D (lS L i) < 1000000000 then 1 else 0)) * x i) m := by
    refine sm_nn m (fun i hi => ?_)
    obtain ⟨k1, k2, k3, k4, k5, k6, k7⟩ := hK.2.2.1 i hi
    have x0 := (hx i hi).1
    try dsimp only
    by_cases c1 : D (lB L i) < 1000000000
    · rw [if_pos c1]; split <;> omega
    · rw [if_neg c1]
      by_cases c2 : D (lS L i) < 1000000000
      · rw [if_pos c2]
        by_cases c3 : 0 < x i
        · have h2 := hW.1 (2 * i) (by omega)
          unfold bf_sat at h2
          rw [(mo_e i).1, (mo_e i).2.1, (mo_e i).2.2.1] at h2
          have h3 := h2 ((mo_e i).2.2.2.mpr c3) c2
          have := small _ k1 c2
          omega
        · omega
      · rw [if_neg c2]; omega
  have r3 : sm (fun d => (if D d < 1000000000 then 1 else 0) * lp_sp L m x d) n ≤ sm (fun d => if d = z then -1 else 0) n := by
    refine sm_le n (fun d hd => ?_)
    have h1 := hno d hd
    have h2 := hW.2.2.2.1 d hd
    try dsimp only
    by_cases c : d = z
    · subst c
      have := h2 hs
      rw [if_pos rfl, if_pos (by omega)]; omega
    · rw [if_neg c]
      split
      · by_cases c2 : 0 < lp_sp L m x d
        · have := h1 c2; omega
        · omega
      · omega
  have r4 : sm (fun d => if d = z then -1 else 0) n = -1 := by
    have e : (fun d => if d = z then (-1 : Int) else 0) = up (fun _ => 0) z (-1) := rfl
    rw [e, sm_up, sm_0, if_pos hz]; rfl
  omega
/-- what is short in all -/
def mo_s (L : lpT) (n m : Nat) (x : Nat → Int) : Int := sm (fun d => if lp_sp L m x d < 0 then -(lp_sp L m x d) else 0) n
theorem mo_s_round {e z : Nat} {u : Int} {y : Nat → Int} (hz : z < n) (hs : 0 < lp_sp L m x e) (h0 : 0 < u) (hu : u ≤ lp_sp L m x e) (hzs : u ≤ -(lp_sp L m x z)) (h : ∀ d, lp_sp L m y d = lp_sp L m x d + ((if d = z then u else 0) - (if d = e then u else 0))) : mo_s L n m y < mo_s L n m x := by
  have ez : e ≠ z := fun q => by rw [q] at hs; omega
  have h1 : mo_s L n m y ≤ sm (up (fun d => if lp_sp L m x d < 0 then -(lp_sp L m x d) else 0) z (-(lp_sp L m x z) - u)) n := by
    refine sm_le n (fun d hd => ?_)
    have hd1 := h d
    try dsimp only
    by_cases c1 : d = z
    · subst c1
      rw [up_at]
      rw [if_pos rfl, if_neg (fun q => ez q.symm)] at hd1
      split <;> omega
    · rw [up_ne _ _ c1]
      rw [if_neg c1] at hd1
      by_cases c2 : d = e
      · subst c2
        rw [if_pos rfl] at hd1
        rw [if_neg (by omega), if_neg (by omega)]
        exact Int.le_refl _
      · rw [if_neg c2] at hd1
        rw [show lp_sp L m y d = lp_sp L m x d by omega]
        exact Int.le_refl _
  rw [sm_up, if_pos hz, if_pos (by omega)] at h1
  unfold mo_s at *
  omega
theorem mo_s_0 : 0 ≤ mo_s L n m x := by
  unfold mo_s
  refine sm_nn n (fun d _ => ?_)
  try dsimp only
  split <;> omega
theorem mo_s_start (hK : lp_K L n m) : ∀ j, j ≤ m → mo_s L n j (lL L) ≤ 1000 * (j : Int)
  | 0, _ => by
    have : mo_s L n 0 (lL L) ≤ sm (fun _ => 0) n := by
      refine sm_le n (fun d hd => ?_)
      have := (hK.2.2.2 d hd).1
      show (if lK L d + 0 < 0 then -(lK L d + 0) else 0) ≤ (0 : Int)
      rw [if_neg (by omega)]
      exact Int.le_refl _
    rw [sm_0] at this
    omega
  | j + 1, hj => by
    have ih := mo_s_start hK j (by omega)
    obtain ⟨k1, k2, k3, k4, k5, k6, k7⟩ := hK.2.2.1 j (by omega)
    have h1 : mo_s L n (j + 1) (lL L) ≤ sm (fun d => (if lp_sp L j (lL L) d < 0 then -(lp_sp L j (lL L) d) else 0) + (fun d => 1 * (if lS L j = d then lL L j else 0)) d) n := by
      refine sm_le n (fun d _ => ?_)
      have e : lp_sp L (j + 1) (lL L) d = lp_sp L j (lL L) d + ((if lB L j = d then lL L j else 0) - (if lS L j = d then lL L j else 0)) := by
        show lK L d + (sm _ j + lp_h L (lL L) d j) = lK L d + sm _ j + _
        unfold lp_h
        omega
      show (if lp_sp L (j + 1) (lL L) d < 0 then -(lp_sp L (j + 1) (lL L) d) else 0) ≤ (if lp_sp L j (lL L) d < 0 then -(lp_sp L j (lL L) d) else 0) + 1 * (if lS L j = d then lL L j else 0)
      rw [e]
      split <;> split <;> split <;> split <;> omega
    rw [sm_add, sm_one (fun _ => 1), if_pos k1] at h1
    unfold mo_s at *
    omega
theorem lp_sp_bd (hK : lp_K L n m) (hx : ∀ i, i < m → 0 ≤ x i ∧ x i ≤ lL L i) {d : Nat} (hd : d < n) : ∀ j, j ≤ m → -(1000 * (j : Int)) ≤ lp_sp L j x d ∧ lp_sp L j x d ≤ 200000 + 1000 * (j : Int)
  | 0, _ => by
    have := hK.2.2.2 d hd
    show _ ≤ lK L d + 0 ∧ lK L d + 0 ≤ _
    omega
  | j + 1, hj => by
    have ih := lp_sp_bd hK hx hd j (by omega)
    have h1 := hx j (by omega)
    obtain ⟨k1, k2, k3, k4, k5, k6, k7⟩ := hK.2.2.1 j (by omega)
    have e : lp_sp L (j + 1) x d = lp_sp L j x d + ((if lB L j = d then x j else 0) - (if lS L j = d then x j else 0)) := by
      show lK L d + (sm _ j + lp_h L x d j) = lK L d + sm _ j + _
      unfold lp_h
      omega
    rw [e]
    split <;> split <;> omega
end MO
