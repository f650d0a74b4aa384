/-! MOST: the reference's net, purely. Edges: sales, then for each dealer hub to dealer (its stock), dealer to hub -/
def ne_F (L : lpT) (m e : Nat) : Nat := if e < m then lS L e else if (e - m) % 2 = 0 then 8 else (e - m) / 2
def ne_T (L : lpT) (m e : Nat) : Nat := if e < m then lB L e else if (e - m) % 2 = 0 then (e - m) / 2 else 8
def ne_R (L : lpT) (m e : Nat) : Int := if e < m then lL L e else if (e - m) % 2 = 0 then lK L ((e - m) / 2) else 1000000000
def ne_G (L : lpT) (m e : Nat) : Int := if e < m then lG L e else 0
/-- the net as a problem of its own: no stock -/
def ne_L (L : lpT) (m : Nat) : lpT := (ne_F L m, ne_T L m, ne_R L m, ne_G L m, fun _ => 0)
def ne_N (L : lpT) (m : Nat) (f : Nat → Int) : bfG := (fun a => if a % 2 = 0 then ne_F L m (a / 2) else ne_T L m (a / 2), fun a => if a % 2 = 0 then ne_T L m (a / 2) else ne_F L m (a / 2), fun a => if a % 2 = 0 then -(ne_G L m (a / 2)) else ne_G L m (a / 2), fun a => if a % 2 = 0 then f (a / 2) < ne_R L m (a / 2) else 0 < f (a / 2))
theorem ne_e {L : lpT} {m : Nat} {f : Nat → Int} (i : Nat) : bT (ne_N L m f) (2 * i) = ne_F L m i ∧ bH (ne_N L m f) (2 * i) = ne_T L m i ∧ bC (ne_N L m f) (2 * i) = -(ne_G L m i) ∧ (bO (ne_N L m f) (2 * i) ↔ f i < ne_R L m i) := by
  have e1 : 2 * i % 2 = 0 := by omega
  have e2 : 2 * i / 2 = i := by omega
  refine ⟨?_, ?_, ?_, ?_⟩ <;> simp [bT, bH, bC, bO, ne_N, e1, e2]
theorem ne_o {L : lpT} {m : Nat} {f : Nat → Int} (i : Nat) : bT (ne_N L m f) (2 * i + 1) = ne_T L m i ∧ bH (ne_N L m f) (2 * i + 1) = ne_F L m i ∧ bC (ne_N L m f) (2 * i + 1) = ne_G L m i ∧ (bO (ne_N L m f) (2 * i + 1) ↔ 0 < f i) := by
  have e2 : (2 * i + 1) / 2 = i := by omega
  refine ⟨?_, ?_, ?_, ?_⟩ <;> simp [bT, bH, bC, bO, ne_N, e2]
theorem ne_h1 {L : lpT} {m : Nat} (d : Nat) : ne_F L m (m + 2 * d) = 8 ∧ ne_T L m (m + 2 * d) = d ∧ ne_R L m (m + 2 * d) = lK L d ∧ ne_G L m (m + 2 * d) = 0 := by
  have e : (m + 2 * d - m) / 2 = d := by omega
  have c : ¬ m + 2 * d < m := by omega
  have c2 : (m + 2 * d - m) % 2 = 0 := by omega
  unfold ne_F ne_T ne_R ne_G
  rw [if_neg c, if_neg c, if_neg c, if_neg c, if_pos c2, if_pos c2, if_pos c2, e]
  exact ⟨rfl, rfl, rfl, rfl⟩
theorem ne_h2 {L : lpT} {m : Nat} (d : Nat) : ne_F L m (m + 2 * d + 1) = d ∧ ne_T L m (m + 2 * d + 1) = 8 ∧ ne_R L m (m + 2 * d + 1) = 1000000000 ∧ ne_G L m (m + 2 * d + 1) = 0 := by
  have e : (m + 2 * d + 1 - m) / 2 = d := by omega
  have c : ¬ m + 2 * d + 1 < m := by omega
  have c2 : ¬ (m + 2 * d + 1 - m) % 2 = 0 := by omega
  unfold ne_F ne_T ne_R ne_G
  rw [if_neg c, if_neg c, if_neg c, if_neg c, if_neg c2, if_neg c2, if_neg c2, e]
  exact ⟨rfl, rfl, rfl, rfl⟩
/-- edges as they must be -/
theorem ne_ok {L : lpT} {n m e : Nat} (hK : lp_K L n m) (he : e < m + 2 * n) : ne_F L m e < 9 ∧ ne_T L m e < 9 ∧ ne_F L m e ≠ ne_T L m e ∧ 0 ≤ ne_R L m e ∧ ne_R L m e ≤ 1000000000 ∧ 0 ≤ ne_G L m e ∧ ne_G L m e ≤ 10000 ∧ (ne_G L m e = 0 ∨ ne_R L m e ≤ 1000) := by
  have h8 := hK.1
  unfold ne_F ne_T ne_R ne_G
  by_cases c : e < m
  · obtain ⟨k1, k2, k3, k4, k5, k6, k7⟩ := hK.2.2.1 e c
    rw [if_pos c, if_pos c, if_pos c, if_pos c]
    exact ⟨by omega, by omega, k3, k4, by omega, k6, k7, Or.inr k5⟩
  · rw [if_neg c, if_neg c, if_neg c, if_neg c]
    by_cases c2 : (e - m) % 2 = 0
    · have hk := hK.2.2.2 ((e - m) / 2) (by omega)
      rw [if_pos c2, if_pos c2, if_pos c2]
      exact ⟨by omega, by omega, by omega, hk.1, by omega, by omega, by omega, Or.inl rfl⟩
    · rw [if_neg c2, if_neg c2, if_neg c2]
      exact ⟨by omega, by omega, by omega, by omega, by omega, by omega, by omega, Or.inl rfl⟩
theorem ne_arc {L : lpT} {n m : Nat} {f : Nat → Int} (hK : lp_K L n m) {a : Nat} (ha : a < 2 * (m + 2 * n)) : bT (ne_N L m f) a < 9 ∧ bH (ne_N L m f) a < 9 ∧ bT (ne_N L m f) a ≠ bH (ne_N L m f) a ∧ -10000 ≤ bC (ne_N L m f) a := by
  rcases mo_2 a with ⟨i, rfl⟩ | ⟨i, rfl⟩
  · obtain ⟨k1, k2, k3, k4, k5, k6, k7, k8⟩ := ne_ok hK (e := i) (by omega)
    rw [(ne_e i).1, (ne_e i).2.1, (ne_e i).2.2.1]
    exact ⟨k1, k2, k3, by omega⟩
  · obtain ⟨k1, k2, k3, k4, k5, k6, k7, k8⟩ := ne_ok hK (e := i) (by omega)
    rw [(ne_o i).1, (ne_o i).2.1, (ne_o i).2.2.1]
    exact ⟨k2, k1, k3.symm, by omega⟩
/-- a flow: within room, kept at every node -/
def ne_Fl (L : lpT) (n m : Nat) (f : Nat → Int) : Prop := (∀ e, e < m + 2 * n → 0 ≤ f e ∧ f e ≤ ne_R L m e) ∧ ∀ w, lp_sp (ne_L L m) (m + 2 * n) f w = 0
/-- ways along where a node came from -/
def ne_W (G : bfG) (P : Nat → Option Nat) (z : Nat) : Nat → List Nat → Prop
  | w, [] => w = z
  | w, a :: l => P w = some a ∧ ne_W G P z (bT G a) l
section NW
variable {G : bfG} {P : Nat → Option Nat} {z : Nat}
theorem ne_W.suf {y : Nat} (hH : ∀ w a, P w = some a → bH G a = w) : ∀ l w, ne_W G P z w l → y ∈ l.map (bH G) → ∃ l1 l2, l = l1 ++ l2 ∧ l2 ≠ [] ∧ ne_W G P z y l2
  | [], _, _, h => by cases h
  | a :: l, w, hp, h => by
    rcases List.mem_cons.mp h with e | h
    · rw [hH w a hp.1] at e
      subst e
      exact ⟨[], a :: l, rfl, by simp, hp⟩
    · obtain ⟨l1, l2, e1, e2, e3⟩ := ne_W.suf hH l _ hp.2 h
      exact ⟨a :: l1, l2, by rw [e1]; rfl, e2, e3⟩
/-- two ways from a node to the same end, one longer: the end lies on the longer -/
theorem ne_W.two (hH : ∀ w a, P w = some a → bH G a = w) : ∀ (l2 l : List Nat) (w : Nat), ne_W G P z w l2 → ne_W G P z w l → l2.length < l.length → z ∈ l.map (bH G)
  | [], a :: l, w, h2, h, _ => by
    have e : w = z := h2
    rw [← e, ← hH w a h.1]
    exact List.mem_cons_self
  | _, [], _, _, _, hl => absurd hl (by simp)
  | b :: l2, a :: l, w, h2, h, hl => by
    have e : some b = some a := h2.1.symm.trans h.1
    have e : b = a := by injection e
    subst e
    have := ne_W.two hH l2 l (bT G b) h2.2 h.2 (by simpa using hl)
    exact List.mem_cons_of_mem _ this
theorem ne_W.rep (hH : ∀ w a, P w = some a → bH G a = w) : ∀ l w, ne_W G P z w l → ¬ (l.map (bH G)).Nodup → z ∈ l.map (bH G)
  | [], _, _, h => absurd List.nodup_nil h
  | a :: l, w, hp, h => by
    by_cases c : (l.map (bH G)).Nodup
    · have hin : bH G a ∈ l.map (bH G) := by
        by_cases c2 : bH G a ∈ l.map (bH G)
        · exact c2
        · exact absurd (List.nodup_cons.mpr ⟨c2, c⟩) h
      rw [hH w a hp.1] at hin
      obtain ⟨l1, l2, e1, e2, e3⟩ := ne_W.suf hH l _ hp.2 hin
      refine ne_W.two hH l2 (a :: l) w e3 hp ?_
      rw [e1]; simp only [List.length_cons, List.length_append]; omega
    · exact List.mem_cons_of_mem _ (ne_W.rep hH l _ hp.2 c)
theorem ne_W.last (hH : ∀ w a, P w = some a → bH G a = w) : ∀ l w, ne_W G P z w l → z ∈ l.map (bH G) → ∃ a l', ne_W G P z z (a :: l') ∧ z ∉ l'.map (bH G)
  | [], _, _, h => by cases h
  | a :: l, w, hp, h => by
    by_cases c : z ∈ l.map (bH G)
    · exact ne_W.last hH l _ hp.2 c
    · rcases List.mem_cons.mp h with e | h
      · rw [hH w a hp.1] at e
        subst e
        exact ⟨a, l, hp, c⟩
      · exact absurd h c
theorem ne_W.fin (hH : ∀ w a, P w = some a → bH G a = w) (h9 : ∀ w a, P w = some a → bH G a < 9) : ∀ l w, ne_W G P z w l → ∀ y ∈ l.map (bH G), y < 9
  | [], _, _, _, h => by cases h
  | a :: l, w, hp, y, h => by
    rcases List.mem_cons.mp h with e | h
    · rw [e]; exact h9 w a hp.1
    · exact ne_W.fin hH h9 l _ hp.2 y h
/-- nine steps back lie on a ring -/
theorem ne_ring (hH : ∀ w a, P w = some a → bH G a = w) (h9 : ∀ w a, P w = some a → bH G a < 9) {l : List Nat} {w : Nat} (h : ne_W G P z w l) (hl : l.length = 9) (hz : z < 9) : ∃ a l', ne_W G P z z (a :: l') ∧ ((a :: l').map (bH G)).Nodup := by
  have hin : z ∈ l.map (bH G) := by
    by_cases c : (l.map (bH G)).Nodup
    · by_cases c2 : z ∈ l.map (bH G)
      · exact c2
      · have := nd_le 9 (z :: l.map (bH G)) (List.nodup_cons.mpr ⟨c2, c⟩) (fun y hy => by
          rcases List.mem_cons.mp hy with e | hy
          · rw [e]; exact hz
          · exact ne_W.fin hH h9 l w h y hy)
        simp only [List.length_cons, List.length_map, hl] at this
        omega
    · exact ne_W.rep hH l w h c
  obtain ⟨a, l', h1, h2⟩ := ne_W.last hH l w h hin
  refine ⟨a, l', h1, List.nodup_cons.mpr ⟨?_, ?_⟩⟩
  · rw [hH z a h1.1]; exact h2
  · by_cases c : (l'.map (bH G)).Nodup
    · exact c
    · exact absurd (ne_W.rep hH l' _ h1.2 c) h2
end NW
section NE
variable {L : lpT} {n m : Nat} {f D : Nat → Int} {P : Nat → Option Nat} {t : Nat → Nat} {z : Nat}
/-- what parents keep -/
def ne_P (L : lpT) (n m : Nat) (f D : Nat → Int) (P : Nat → Option Nat) (t : Nat → Nat) : Prop := ∀ w a, P w = some a → a < 2 * (m + 2 * n) ∧ bO (ne_N L m f) a ∧ bH (ne_N L m f) a = w ∧ D (bT (ne_N L m f) a) + bC (ne_N L m f) a ≤ D w ∧ (D w = D (bT (ne_N L m f) a) + bC (ne_N L m f) a → t (bT (ne_N L m f) a) < t w)
/-- what a way costs -/
def ne_C (L : lpT) (m : Nat) (f : Nat → Int) : List Nat → Int
  | [] => 0
  | a :: l => bC (ne_N L m f) a + ne_C L m f l
theorem ne_cost (hP : ne_P L n m f D P t) : ∀ l w, ne_W (ne_N L m f) P z w l → D z + ne_C L m f l ≤ D w ∧ (D w = D z + ne_C L m f l → l = [] ∨ t z < t w)
  | [], w, h => by
    have e : w = z := h
    subst e
    exact ⟨by show D w + 0 ≤ D w; omega, fun _ => Or.inl rfl⟩
  | a :: l, w, h => by
    obtain ⟨a1, a2, a3, a4, a5⟩ := hP w a h.1
    obtain ⟨i1, i2⟩ := ne_cost hP l _ h.2
    refine ⟨by show D z + (bC (ne_N L m f) a + ne_C L m f l) ≤ D w; omega, fun q => Or.inr ?_⟩
    have q : D w = D z + (bC (ne_N L m f) a + ne_C L m f l) := q
    have h1 := a5 (by omega)
    rcases i2 (by omega) with e | e
    · subst e
      have e2 : bT (ne_N L m f) a = z := h.2
      rw [← e2]; exact h1
    · omega
theorem ne_gain (hP : ne_P L n m f D P t) {a : Nat} {l : List Nat} (h : ne_W (ne_N L m f) P z z (a :: l)) : ne_C L m f (a :: l) < 0 := by
  obtain ⟨h1, h2⟩ := ne_cost hP (a :: l) z h
  by_cases c : ne_C L m f (a :: l) = 0
  · rcases h2 (by omega) with e | e
    · cases e
    · omega
  · omega
theorem ne_W.in (hP : ne_P L n m f D P t) : ∀ l w, ne_W (ne_N L m f) P z w l → ∀ a ∈ l, P (bH (ne_N L m f) a) = some a
  | [], _, _, _, h => by cases h
  | b :: l, w, hp, a, h => by
    rcases List.mem_cons.mp h with e | h
    · rw [e, (hP w b hp.1).2.2.1]; exact hp.1
    · exact ne_W.in hP l _ hp.2 a h
theorem ne_half (hP : ne_P L n m f D P t) {w w' a a' : Nat} (h : P w = some a) (h' : P w' = some a') (e : a / 2 = a' / 2) : a = a' := by
  obtain ⟨a1, a2, a3, a4, a5⟩ := hP w a h
  obtain ⟨b1, b2, b3, b4, b5⟩ := hP w' a' h'
  rcases mo_2 a with ⟨i, rfl⟩ | ⟨i, rfl⟩ <;> rcases mo_2 a' with ⟨j, rfl⟩ | ⟨j, rfl⟩
  · omega
  · have : i = j := by omega
    subst this
    rw [(ne_e i).1, (ne_e i).2.2.1] at a4 a5
    rw [(ne_e i).2.1] at a3
    rw [(ne_o i).1, (ne_o i).2.2.1] at b4 b5
    rw [(ne_o i).2.1] at b3
    subst a3 b3
    have := a5 (by omega)
    have := b5 (by omega)
    omega
  · have : i = j := by omega
    subst this
    rw [(ne_o i).1, (ne_o i).2.2.1] at a4 a5
    rw [(ne_o i).2.1] at a3
    rw [(ne_e i).1, (ne_e i).2.2.1] at b4 b5
    rw [(ne_e i).2.1] at b3
    subst a3 b3
    have := a5 (by omega)
    have := b5 (by omega)
    omega
  · omega
theorem ne_nd (hP : ne_P L n m f D P t) : ∀ l w, ne_W (ne_N L m f) P z w l → (l.map (bH (ne_N L m f))).Nodup → (l.map (fun a => a / 2)).Nodup
  | [], _, _, _ => List.nodup_nil
  | a :: l, w, hp, h => by
    obtain ⟨h1, h2⟩ := List.nodup_cons.mp h
    refine List.nodup_cons.mpr ⟨fun q => ?_, ne_nd hP l _ hp.2 h2⟩
    obtain ⟨a', ha', e⟩ := List.mem_map.mp q
    have := ne_half hP (ne_W.in hP l _ hp.2 a' ha') hp.1 e
    subst this
    exact h1 (List.mem_map.mpr ⟨a', ha', rfl⟩)
/-- the flow changed along a way -/
def ne_g (a : Nat) : Int := if a % 2 = 0 then 1 else -1
def ne_r (L : lpT) (m : Nat) (f : Nat → Int) (a : Nat) : Int := if a % 2 = 0 then ne_R L m (a / 2) - f (a / 2) else f (a / 2)
def ne_p (u : Int) : List Nat → (Nat → Int) → Nat → Int
  | [], f => f
  | a :: l, f => ne_p u l (up f (a / 2) (f (a / 2) + ne_g a * u))
theorem ne_p_out {u : Int} {i : Nat} : ∀ (l : List Nat) (f : Nat → Int), i ∉ l.map (fun a => a / 2) → ne_p u l f i = f i
  | [], _, _ => rfl
  | a :: l, f, h => by
    show ne_p u l (up f (a / 2) _) i = _
    rw [ne_p_out l _ (fun q => h (List.mem_cons_of_mem _ q)), up_ne _ _ (fun q => h (by rw [q]; exact List.mem_cons_self))]
theorem ne_p_in {u : Int} : ∀ (l : List Nat) (f : Nat → Int), (l.map (fun a => a / 2)).Nodup → ∀ a ∈ l, ne_p u l f (a / 2) = f (a / 2) + ne_g a * u
  | [], _, _, a, h => by cases h
  | b :: l, f, hn, a, h => by
    obtain ⟨n1, n2⟩ := List.nodup_cons.mp hn
    show ne_p u l (up f (b / 2) _) (a / 2) = _
    rcases List.mem_cons.mp h with rfl | h
    · rw [ne_p_out l _ n1, up_at]
    · rw [ne_p_in l _ n2 a h, up_ne _ _ (fun q => n1 (List.mem_map.mpr ⟨a, h, q⟩))]
theorem ne_p_sp {u : Int} (hm : ∀ w a, P w = some a → a < 2 * (m + 2 * n) ∧ bH (ne_N L m f) a = w) : ∀ (l : List Nat) (w : Nat) (y : Nat → Int), ne_W (ne_N L m f) P z w l → ∀ d, lp_sp (ne_L L m) (m + 2 * n) (ne_p u l y) d = lp_sp (ne_L L m) (m + 2 * n) y d + ((if d = w then u else 0) - (if d = z then u else 0))
  | [], w, y, h, d => by
    have e : w = z := h
    show lp_sp _ _ y d = _
    rw [e]; omega
  | a :: l, w, y, h, d => by
    obtain ⟨a1, a2⟩ := hm w a h.1
    show lp_sp (ne_L L m) (m + 2 * n) (ne_p u l (up y (a / 2) _)) d = _
    rw [ne_p_sp hm l _ _ h.2 d, lp_sp_up (by omega)]
    show _ + ((if ne_T L m (a / 2) = d then _ else 0) - (if ne_F L m (a / 2) = d then _ else 0)) + _ = _
    have t1 : (ne_T L m (a / 2) = d) = (d = ne_T L m (a / 2)) := propext ⟨Eq.symm, Eq.symm⟩
    have t2 : (ne_F L m (a / 2) = d) = (d = ne_F L m (a / 2)) := propext ⟨Eq.symm, Eq.symm⟩
    simp only [t1, t2]
    rcases mo_2 a with ⟨i, rfl⟩ | ⟨i, rfl⟩
    · rw [(ne_e i).2.1] at a2
      have e2 : 2 * i / 2 = i := by omega
      have e3 : ne_g (2 * i) = 1 := if_pos (by omega)
      rw [(ne_e i).1, e2, e3, ← a2]
      split <;> split <;> split <;> omega
    · rw [(ne_o i).2.1] at a2
      have e2 : (2 * i + 1) / 2 = i := by omega
      have e3 : ne_g (2 * i + 1) = -1 := if_neg (by omega)
      rw [(ne_o i).1, e2, e3, ← a2]
      split <;> split <;> split <;> omega
theorem ne_p_V {u : Int} : ∀ (l : List Nat) (y : Nat → Int), (∀ a ∈ l, a < 2 * (m + 2 * n)) → lp_V (ne_L L m) (m + 2 * n) (ne_p u l y) = lp_V (ne_L L m) (m + 2 * n) y - ne_C L m f l * u
  | [], y, _ => by show lp_V _ _ y = lp_V _ _ y - 0 * u; omega
  | a :: l, y, h => by
    have ha := h a List.mem_cons_self
    show lp_V (ne_L L m) (m + 2 * n) (ne_p u l (up y (a / 2) _)) = _ - (bC (ne_N L m f) a + ne_C L m f l) * u
    rw [ne_p_V l _ (fun a' h' => h a' (List.mem_cons_of_mem _ h')), Int.add_mul]
    have e : (fun i => lG (ne_L L m) i * up y (a / 2) (y (a / 2) + ne_g a * u) i) = up (fun i => lG (ne_L L m) i * y i) (a / 2) (lG (ne_L L m) (a / 2) * (y (a / 2) + ne_g a * u)) := by
      funext i
      by_cases c : i = a / 2
      · subst c; rw [up_at, up_at]
      · rw [up_ne _ _ c, up_ne _ _ c]
    have e2 : lp_V (ne_L L m) (m + 2 * n) (up y (a / 2) (y (a / 2) + ne_g a * u)) = lp_V (ne_L L m) (m + 2 * n) y + ne_G L m (a / 2) * (ne_g a * u) := by
      unfold lp_V
      rw [e, sm_up, if_pos (by omega), Int.mul_add]
      show _ + (_ + ne_G L m (a / 2) * (ne_g a * u) - _) = _
      omega
    rw [e2]
    rcases mo_2 a with ⟨i, rfl⟩ | ⟨i, rfl⟩
    · have e3 : ne_g (2 * i) = 1 := if_pos (by omega)
      rw [(ne_e i).2.2.1, e3, show 2 * i / 2 = i by omega, Int.one_mul, Int.neg_mul]
      omega
    · have e3 : ne_g (2 * i + 1) = -1 := if_neg (by omega)
      rw [(ne_o i).2.2.1, e3, show (2 * i + 1) / 2 = i by omega, Int.neg_mul, Int.one_mul, Int.mul_neg]
      omega
/-- going round keeps a flow and gains -/
theorem ne_round (hK : lp_K L n m) (hF : ne_Fl L n m f) (hP : ne_P L n m f D P t) {a : Nat} {l : List Nat} {u : Int} (h : ne_W (ne_N L m f) P z z (a :: l)) (hn : ((a :: l).map (bH (ne_N L m f))).Nodup) (h0 : 0 < u) (hr : ∀ a' ∈ a :: l, u ≤ ne_r L m f a') : ne_Fl L n m (ne_p u (a :: l) f) ∧ lp_V (ne_L L m) (m + 2 * n) f < lp_V (ne_L L m) (m + 2 * n) (ne_p u (a :: l) f) := by
  have nd := ne_nd hP (a :: l) z h hn
  have hin := ne_W.in hP (a :: l) z h
  refine ⟨⟨fun e he => ?_, fun w => ?_⟩, ?_⟩
  · by_cases c : e ∈ (a :: l).map (fun a => a / 2)
    · obtain ⟨a', ha', rfl⟩ := List.mem_map.mp c
      have fe := hF.1 (a' / 2) he
      have hra := hr a' ha'
      rw [ne_p_in _ _ nd a' ha']
      show 0 ≤ f (a' / 2) + ne_g a' * u ∧ f (a' / 2) + ne_g a' * u ≤ ne_R L m (a' / 2)
      unfold ne_r at hra
      unfold ne_g
      split
      · rename_i c2; rw [if_pos c2] at hra; omega
      · rename_i c2; rw [if_neg c2] at hra; omega
    · rw [ne_p_out _ _ c]; exact hF.1 e he
  · rw [ne_p_sp (fun w a q => ⟨(hP w a q).1, (hP w a q).2.2.1⟩) (a :: l) z f h w, hF.2 w]
    omega
  · rw [ne_p_V (f := f) (a :: l) f (fun a' ha' => (hP _ a' (hin a' ha')).1)]
    have g1 := ne_gain hP h
    have g2 := Int.mul_le_mul_of_nonneg_right (show ne_C L m f (a :: l) ≤ -1 by omega) (Int.le_of_lt h0)
    omega
theorem ne_V_bd (hK : lp_K L n m) (hF : ne_Fl L n m f) : 0 ≤ lp_V (ne_L L m) (m + 2 * n) f ∧ lp_V (ne_L L m) (m + 2 * n) f ≤ 400000000 := by
  have h1 := sm_bd (f := fun i => lG (ne_L L m) i * f i) (c := 10000000) (m + 2 * n) (fun i hi => by
    obtain ⟨k1, k2, k3, k4, k5, k6, k7, k8⟩ := ne_ok hK hi
    have fi := hF.1 i hi
    show 0 ≤ ne_G L m i * f i ∧ ne_G L m i * f i ≤ 10000000
    refine ⟨Int.mul_nonneg k6 fi.1, ?_⟩
    rcases k8 with e | e
    · rw [e, Int.zero_mul]; omega
    · have := Int.mul_le_mul_of_nonneg_right k7 fi.1
      omega)
  have h8 := hK.1
  have h24 := hK.2.1
  refine ⟨h1.1, ?_⟩
  have h2 := h1.2
  show sm _ _ ≤ _
  omega
/-- units kept at a dealer -/
theorem ne_hub (hK : lp_K L n m) {d : Nat} (hd : d < 8) : ∀ j, j ≤ n → sm (lp_h (ne_L L m) f d) (m + 2 * j) = sm (lp_h L f d) m + if d < j then f (m + 2 * d) - f (m + 2 * d + 1) else 0
  | 0, _ => by
    show sm (lp_h (ne_L L m) f d) m = _
    rw [if_neg (by omega), Int.add_zero]
    refine sm_eq m (fun e he => ?_)
    unfold lp_h
    show (if ne_T L m e = d then f e else 0) - (if ne_F L m e = d then f e else 0) = _
    unfold ne_T ne_F
    rw [if_pos he, if_pos he]
  | j + 1, hj => by
    have ih := ne_hub hK hd j (by omega)
    show sm (lp_h (ne_L L m) f d) (m + 2 * j) + lp_h (ne_L L m) f d (m + 2 * j) + lp_h (ne_L L m) f d (m + 2 * j + 1) = _
    rw [ih]
    have e1 : lp_h (ne_L L m) f d (m + 2 * j) = if j = d then f (m + 2 * j) else 0 := by
      unfold lp_h
      show (if ne_T L m (m + 2 * j) = d then _ else 0) - (if ne_F L m (m + 2 * j) = d then _ else 0) = _
      rw [(ne_h1 j).1, (ne_h1 j).2.1]
      split <;> split <;> omega
    have e2 : lp_h (ne_L L m) f d (m + 2 * j + 1) = -(if j = d then f (m + 2 * j + 1) else 0) := by
      unfold lp_h
      show (if ne_T L m (m + 2 * j + 1) = d then _ else 0) - (if ne_F L m (m + 2 * j + 1) = d then _ else 0) = _
      rw [(ne_h2 j).1, (ne_h2 j).2.1]
      split <;> split <;> omega
    rw [e1, e2]
    by_cases c : j = d
    · subst c
      rw [if_neg (Nat.lt_irrefl _), if_pos rfl, if_pos rfl, if_pos (by omega)]; omega
    · rw [if_neg c, if_neg c]
      by_cases c2 : d < j
      · rw [if_pos c2, if_pos (by omega)]; omega
      · rw [if_neg c2, if_neg (by omega)]; omega
/-- when nothing gains, the flow is the most -/
theorem ne_best (hK : lp_K L n m) (hF : ne_Fl L n m f) (h0 : ∀ w, D w < 1) (hs : ∀ a, a < 2 * (m + 2 * n) → bf_sat (ne_N L m f) 1 D a) : lp_O L n m f (fun d => D d - D 8) := by
  have h8 := hK.1
  have hx : ∀ i, i < m → 0 ≤ f i ∧ f i ≤ lL L i := fun i hi => by
    have := hF.1 i (by omega)
    unfold ne_R at this
    rw [if_pos hi] at this
    exact this
  have sat : ∀ a, a < 2 * (m + 2 * n) → bO (ne_N L m f) a → D (bH (ne_N L m f) a) ≤ D (bT (ne_N L m f) a) + bC (ne_N L m f) a := fun a ha ho => hs a ha ho (h0 _)
  have hub : ∀ d, d < n → lp_sp L m f d = lK L d - f (m + 2 * d) + f (m + 2 * d + 1) ∧ 0 ≤ f (m + 2 * d) ∧ f (m + 2 * d) ≤ lK L d ∧ 0 ≤ f (m + 2 * d + 1) := fun d hd => by
    have h1 := hF.2 d
    have h2 := ne_hub (f := f) hK (show d < 8 by omega) n (Nat.le_refl _)
    rw [if_pos hd] at h2
    have h1 : 0 + sm (lp_h (ne_L L m) f d) (m + 2 * n) = 0 := h1
    have f1 := hF.1 (m + 2 * d) (by omega)
    have f2 := hF.1 (m + 2 * d + 1) (by omega)
    unfold ne_R at f1 f2
    rw [if_neg (by omega), if_pos (by omega), show (m + 2 * d - m) / 2 = d by omega] at f1
    refine ⟨?_, f1.1, f1.2, f2.1⟩
    unfold lp_sp
    omega
  refine ⟨⟨hx, fun d hd => ?_⟩, fun i hi => ⟨fun q => ?_, fun q => ?_⟩, fun d hd => ?_⟩
  · obtain ⟨a1, a2, a3, a4⟩ := hub d hd
    omega
  · have h1 := sat (2 * i + 1) (by omega) ((ne_o i).2.2.2.mpr q)
    rw [(ne_o i).1, (ne_o i).2.1, (ne_o i).2.2.1] at h1
    unfold ne_T ne_F ne_G at h1
    rw [if_pos hi, if_pos hi, if_pos hi] at h1
    show D (lS L i) - D 8 - (D (lB L i) - D 8) ≤ lG L i
    omega
  · have e : ne_R L m i = lL L i := by unfold ne_R; rw [if_pos hi]
    have h1 := sat (2 * i) (by omega) ((ne_e i).2.2.2.mpr (by rw [e]; exact q))
    rw [(ne_e i).1, (ne_e i).2.1, (ne_e i).2.2.1] at h1
    unfold ne_T ne_F ne_G at h1
    rw [if_pos hi, if_pos hi, if_pos hi] at h1
    show lG L i ≤ D (lS L i) - D 8 - (D (lB L i) - D 8)
    omega
  · obtain ⟨a1, a2, a3, a4⟩ := hub d hd
    have bd := lp_sp_bd hK hx hd m (Nat.le_refl _)
    have h24 := hK.2.1
    have F1 : ne_F L m (m + 2 * d) = 8 := by unfold ne_F; rw [if_neg (by omega), if_pos (by omega)]
    have T1 : ne_T L m (m + 2 * d) = d := by unfold ne_T; rw [if_neg (by omega), if_pos (by omega)]; omega
    have R1 : ne_R L m (m + 2 * d) = lK L d := by unfold ne_R; rw [if_neg (by omega), if_pos (by omega), show (m + 2 * d - m) / 2 = d by omega]
    have G1 : ne_G L m (m + 2 * d) = 0 := by unfold ne_G; rw [if_neg (by omega)]
    have F2 : ne_F L m (m + 2 * d + 1) = d := by unfold ne_F; rw [if_neg (by omega), if_neg (by omega)]; omega
    have T2 : ne_T L m (m + 2 * d + 1) = 8 := by unfold ne_T; rw [if_neg (by omega), if_neg (by omega)]
    have R2 : ne_R L m (m + 2 * d + 1) = 1000000000 := by unfold ne_R; rw [if_neg (by omega), if_neg (by omega)]
    have G2 : ne_G L m (m + 2 * d + 1) = 0 := by unfold ne_G; rw [if_neg (by omega)]
    have b1 := sat (2 * (m + 2 * d + 1)) (by omega) ((ne_e _).2.2.2.mpr (by rw [R2]; omega))
    rw [(ne_e _).1, (ne_e _).2.1, (ne_e _).2.2.1, T2, F2, G2] at b1
    refine ⟨by show 0 ≤ D d - D 8; omega, fun q => ?_⟩
    show D d - D 8 = 0
    by_cases c : f (m + 2 * d) < lK L d
    · have b2 := sat (2 * (m + 2 * d)) (by omega) ((ne_e _).2.2.2.mpr (by rw [R1]; exact c))
      rw [(ne_e _).1, (ne_e _).2.1, (ne_e _).2.2.1, T1, F1, G1] at b2
      omega
    · have b2 := sat (2 * (m + 2 * d + 1) + 1) (by omega) ((ne_o _).2.2.2.mpr (by omega))
      rw [(ne_o _).1, (ne_o _).2.1, (ne_o _).2.2.1, T2, F2, G2] at b2
      omega
end NE
