/-! HOUSES ARE COPIED, KEPT AND TAKEN BACK -/
/-- as fr, but house a may get another rule -/
def frC (X : Nat → Nat → Nat → Prop) (a : Nat) (v v' : gd_D) : Prop := (∀ k i j, ¬ X k i j → v'.1 k i j = v.1 k i j ∧ v'.2.1 k i j = v.2.1 k i j) ∧ v'.2.2.2 = v.2.2.2 ∧ ∀ x, ¬ x = a → v'.2.2.1 x = v.2.2.1 x
theorem fr.C {X : Nat → Nat → Nat → Prop} {a : Nat} {v v' : gd_D} (h : fr X v v') : frC X a v v' := ⟨h.1, by rw [h.2], fun x _ => by rw [h.2]⟩
theorem frC.tr {X : Nat → Nat → Nat → Prop} {a : Nat} {v v1 v2 : gd_D} (h : frC X a v v1) (h2 : frC X a v1 v2) : frC X a v v2 := ⟨fun k i j hx => ⟨(h2.1 k i j hx).1.trans (h.1 k i j hx).1, (h2.1 k i j hx).2.trans (h.1 k i j hx).2⟩, h2.2.1.trans h.2.1, fun x hx => (h2.2.2 x hx).trans (h.2.2 x hx)⟩
theorem frC.wk {X Y : Nat → Nat → Nat → Prop} {a : Nat} {v v1 : gd_D} (h : frC X a v v1) (hY : ∀ k i j, X k i j → Y k i j) : frC Y a v v1 := ⟨fun k i j hx => h.1 k i j (fun q => hx (hY k i j q)), h.2⟩
theorem frC.I {X : Nat → Nat → Nat → Prop} {a : Nat} {v v' : gd_D} (h : frC X a v v') {k i : Nat} (hx : ∀ j, ¬ X k i j) : v'.1 k i = v.1 k i := by funext j; exact (h.1 k i j (hx j)).1
theorem frC.J {X : Nat → Nat → Nat → Prop} {a : Nat} {v v' : gd_D} (h : frC X a v v') {k i : Nat} (hx : ∀ j, ¬ X k i j) : v'.2.1 k i = v.2.1 k i := by funext j; exact (h.1 k i j (hx j)).2
/-- another house is kept -/
theorem cr_R.keptC {v v' : gd_D} {h : Nat} {H : hs_T} (hR : cr_R v h H) (h8 : Hh H 0 ≤ 8) (h24 : Hh H 1 ≤ 24) (h2 : v'.1 2 h = v.1 2 h ∧ v'.2.1 2 h = v.2.1 2 h) (h0 : ∀ i, i < 8 → v'.1 0 (8 * h + i) = v.1 0 (8 * h + i) ∧ v'.2.1 0 (8 * h + i) = v.2.1 0 (8 * h + i)) (h9 : ∀ i, i < 24 → v'.1 9 (24 * h + i) = v.1 9 (24 * h + i)) (hc : v'.2.2.2 = v.2.2.2) (hc2 : v'.2.2.1 h = v.2.2.1 h) (h15 : v'.1 15 (v.2.2.1 h) = v.1 15 (v.2.2.1 h)) : cr_R v' h H := by
  obtain ⟨a1, a2, a3, a4, a5, a6, a7⟩ := hR
  refine ⟨fun j hj => by rw [h2.1]; exact a1 j hj, by rw [h2.2]; exact a2, fun i hi => ?_, fun i hi j hj => by rw [h9 i (by omega)]; exact a4 i hi j hj, ?_, ?_, fun k hk => ?_⟩
  · rw [(h0 i (by omega)).1, (h0 i (by omega)).2]; exact a3 i hi
  · rw [hc, hc2]; exact a5
  · rw [hc, hc2]; exact a6
  · rw [hc2, h15]; exact a7 k hk
theorem fh_o {a b : Nat} (hab : ¬ a = b) : (∀ j, ¬ fh a 2 b j) ∧ (∀ i, i < 8 → ∀ j, ¬ fh a 0 (8 * b + i) j) ∧ (∀ i, i < 24 → ∀ j, ¬ fh a 9 (24 * b + i) j) := by
  refine ⟨fun j q => ?_, fun i hi j q => ?_, fun i hi j q => ?_⟩
  · rcases q with q | q | q <;> omega
  · rcases q with q | q | q <;> omega
  · rcases q with q | q | q <;> omega
theorem cr_R.oth {v v' : gd_D} {a b : Nat} {H : hs_T} (hR : cr_R v b H) (hW : hs_W H) (hab : ¬ a = b) (hf : frC (fh a) a v v') : cr_R v' b H := by
  obtain ⟨o1, o2, o3⟩ := fh_o hab
  exact hR.keptC hW.1 hW.2.1 ⟨hf.I o1, hf.J o1⟩ (fun i hi => ⟨hf.I (o2 i hi), hf.J (o2 i hi)⟩) (fun i hi => hf.I (o3 i hi)) hf.2.1 (hf.2.2 b (fun q => hab q.symm)) (hf.I (fun _ => fh_n (by decide) (by decide) (by decide)))
section CP2
variable {g : ab_E} {d : Nat} {v : gd_D} {Q : ab_O → gd_D → Prop} {H : hs_T}
/-- n numbers of one object are copied to another of its kind -/
theorem cp_step {K a b : Nat} {u : gd_D} {n : Nat} (o : Nat) (hab : ¬ a = b) (h : fr (fy [(K, a)]) v u ∧ ∀ j, j < n → u.1 K a (j + o) = v.1 K b (j + o)) : fr (fy [(K, a)]) v (gd_sI u K a (n + o) (u.1 K b (n + o))) ∧ ∀ j, j < n + 1 → (gd_sI u K a (n + o) (u.1 K b (n + o))).1 K a (j + o) = v.1 K b (j + o) := by
  refine ⟨h.1.tr (fr.sI (fy_y 0 rfl)), fun j hj => ?_⟩
  have eb : u.1 K b = v.1 K b := h.1.I (fun _ q => hab ((Prod.mk.inj (List.mem_singleton.mp q)).2.symm))
  by_cases e : j = n
  · subst e; rw [sI_at, eb]
  · rw [sI_ne (by omega)]; exact h.2 j (by omega)
theorem k_copyD {a b : Nat} (hab : ¬ a = b) (hQ : ∀ v', fr (fy [(0, a)]) v v' → v'.1 0 a 0 = v.1 0 b 0 → v'.1 0 a 5 = v.1 0 b 5 → (∀ j, 1 ≤ j → j ≤ 4 → v'.2.1 0 a j = v.2.1 0 b j) → Q (Sum.inl none) v') : gd_C g mX0_copyFrom d 0 0 [zR 0 a, zR 0 b] v Q := by
  refine c_X0_copyFrom (Nat.zero_le _) ?_
  rintro _ rfl
  rintro _ rfl
  rintro _ rfl
  rintro _ rfl
  rintro _ rfl
  rintro _ rfl
  have y : ∀ {j}, fy [(0, a)] 0 a j := fun {j} => fy_y 0 rfl
  refine hQ _ ((((((fr.sI y).tr (fr.sJ y)).tr (fr.sJ y)).tr (fr.sJ y)).tr (fr.sJ y)).tr (fr.sI y)) ?_ ?_ ?_
  · rw [sI_ne (by omega)]
    exact sI_at
  · rw [sI_at]
    show (gd_sI v 0 a 0 (v.1 0 b 0)).1 0 b 5 = _
    rw [sI_ne (by omega)]
  · intro j h1 h4
    have hj : j = 1 ∨ j = 2 ∨ j = 3 ∨ j = 4 := by omega
    rcases hj with rfl | rfl | rfl | rfl
    · show (gd_sJ (gd_sJ (gd_sJ (gd_sJ _ 0 a 1 _) 0 a 2 _) 0 a 3 _) 0 a 4 _).2.1 0 a 1 = _
      rw [sJ_ne (by omega), sJ_ne (by omega), sJ_ne (by omega), sJ_at]; rfl
    · show (gd_sJ (gd_sJ (gd_sJ (gd_sJ _ 0 a 1 _) 0 a 2 _) 0 a 3 _) 0 a 4 _).2.1 0 a 2 = _
      rw [sJ_ne (by omega), sJ_ne (by omega), sJ_at, sJ_ne (by omega)]; rfl
    · show (gd_sJ (gd_sJ (gd_sJ (gd_sJ _ 0 a 1 _) 0 a 2 _) 0 a 3 _) 0 a 4 _).2.1 0 a 3 = _
      rw [sJ_ne (by omega), sJ_at, sJ_ne (by omega), sJ_ne (by omega)]; rfl
    · show (gd_sJ (gd_sJ (gd_sJ (gd_sJ _ 0 a 1 _) 0 a 2 _) 0 a 3 _) 0 a 4 _).2.1 0 a 4 = _
      rw [sJ_at, sJ_ne (by omega), sJ_ne (by omega), sJ_ne (by omega)]; rfl
theorem k_copyS {a b : Nat} (hab : ¬ a = b) (hQ : ∀ v', fr (fy [(9, a)]) v v' → (∀ j, j < 9 → v'.1 9 a j = v.1 9 b j) → Q (Sum.inl none) v') : gd_C g mX9_copyFrom d 0 0 [zR 9 a, zR 9 b] v Q := by
  refine c_X9_copyFrom (Nat.zero_le _) ?_
  have p0 : fr (fy [(9, a)]) v v ∧ ∀ j, j < 0 → v.1 9 a (j + 0) = v.1 9 b (j + 0) := ⟨fr.rf, fun j hj => absurd hj (Nat.not_lt_zero j)⟩
  rintro _ rfl
  have p1 := cp_step 0 hab p0
  rintro _ rfl
  have p2 := cp_step 0 hab p1
  rintro _ rfl
  have p3 := cp_step 0 hab p2
  rintro _ rfl
  have p4 := cp_step 0 hab p3
  rintro _ rfl
  have p5 := cp_step 0 hab p4
  rintro _ rfl
  have p6 := cp_step 0 hab p5
  rintro _ rfl
  have p7 := cp_step 0 hab p6
  rintro _ rfl
  have p8 := cp_step 0 hab p7
  rintro _ rfl
  have p9 := cp_step 0 hab p8
  exact hQ _ p9.1 (fun j hj => p9.2 j hj)
theorem k_copyFrom {a b : Nat} (hd : 3 ≤ d) (hab : ¬ a = b) (hR : cr_R v b H) (hW : hs_W H) (hQ : ∀ v', frC (fh a) a v v' → cr_R v' a H → Q (Sum.inl none) v') : gd_C g mX2_copyFrom d 0 0 [zR 2 a, zR 2 b] v Q := by
  have h8 := hW.1
  have h24 := hW.2.1
  refine c_X2_copyFrom (Nat.zero_le _) ?_
  have p0 : fr (fy [(2, a)]) v v ∧ ∀ j, j < 0 → v.1 2 a (j + 2) = v.1 2 b (j + 2) := ⟨fr.rf, fun j hj => absurd hj (Nat.not_lt_zero j)⟩
  rintro _ rfl
  have p1 := cp_step 2 hab p0
  rintro _ rfl
  have p2 := cp_step 2 hab p1
  rintro _ rfl
  have p3 := cp_step 2 hab p2
  rintro _ rfl
  have p4 := cp_step 2 hab p3
  rintro _ rfl
  have p5 := cp_step 2 hab p4
  rintro _ rfl
  have p6 := cp_step 2 hab p5
  rintro _ rfl
  have p7 := cp_step 2 hab p6
  generalize (gd_sI (gd_sI (gd_sI (gd_sI (gd_sI (gd_sI (gd_sI v 2 a 2 _) 2 a 3 _) 2 a 4 _) 2 a 5 _) 2 a 6 _) 2 a 7 _) 2 a 8 _) = u7 at p7 ⊢
  rintro _ rfl
  rintro _ rfl
  have e9 : u7.2.1 2 b 9 = Ho H := by rw [p7.1.J (fun _ q => hab ((Prod.mk.inj (List.mem_singleton.mp q)).2.symm))]; exact hR.2.1
  have F9 : frC (fh a) a v (gd_sC (gd_sJ u7 2 a 9 (u7.2.1 2 b 9)) a ((gd_sJ u7 2 a 9 (u7.2.1 2 b 9)).2.2.1 b)) := by
    refine ⟨fun k i j hx => ?_, ?_, fun x hx => ?_⟩
    · have hx2 : ¬ fy [(2, a)] k i j := fun q => hx (by
        have := Prod.mk.inj (List.mem_singleton.mp q)
        exact Or.inl this)
      refine ⟨(p7.1.1 k i j hx2).1, ?_⟩
      show (gd_sJ u7 2 a 9 (u7.2.1 2 b 9)).2.1 k i j = _
      rw [sJ_ne (fun q => hx (Or.inl ⟨q.1, q.2.1⟩))]
      exact (p7.1.1 k i j hx2).2
    · show u7.2.2.2 = _
      rw [p7.1.2]
    · show (if x = a then _ else u7.2.2.1 x) = _
      rw [if_neg hx, p7.1.2]
  have m9 : ∀ j, j < 7 → (gd_sC (gd_sJ u7 2 a 9 (u7.2.1 2 b 9)) a ((gd_sJ u7 2 a 9 (u7.2.1 2 b 9)).2.2.1 b)).1 2 a (j + 2) = nI (Hh H j) := fun j hj => (p7.2 j hj).trans (hR.1 j hj)
  have o9 : (gd_sC (gd_sJ u7 2 a 9 (u7.2.1 2 b 9)) a ((gd_sJ u7 2 a 9 (u7.2.1 2 b 9)).2.2.1 b)).2.1 2 a 9 = Ho H := by
    show (gd_sJ u7 2 a 9 (u7.2.1 2 b 9)).2.1 2 a 9 = _
    rw [sJ_at]; exact e9
  have c9 : (gd_sC (gd_sJ u7 2 a 9 (u7.2.1 2 b 9)) a ((gd_sJ u7 2 a 9 (u7.2.1 2 b 9)).2.2.1 b)).2.2.1 a = v.2.2.1 b := by
    show (if a = a then u7.2.2.1 b else _) = _
    rw [if_pos rfl, p7.1.2]
  generalize gd_sC (gd_sJ u7 2 a 9 (u7.2.1 2 b 9)) a ((gd_sJ u7 2 a 9 (u7.2.1 2 b 9)).2.2.1 b) = u9 at F9 m9 o9 c9 ⊢
  obtain ⟨x1, x2, x3⟩ := fh_o hab
  -- sales
  have sal : ∀ k i (u : gd_D), i + k = Hh H 1 → frC (fh a) a v u → (∀ j, j < 7 → u.1 2 a (j + 2) = nI (Hh H j)) → u.2.1 2 a 9 = Ho H → u.2.2.1 a = v.2.2.1 b → (∀ i, i < Hh H 0 → u.1 0 (8 * a + i) 0 = nI (Hd H i 0) ∧ u.1 0 (8 * a + i) 5 = nI (Hd H i 5) ∧ ∀ j, 1 ≤ j → j ≤ 4 → u.2.1 0 (8 * a + i) j = Hj H i j) → (∀ s, s < i → ∀ j, j < 9 → u.1 9 (24 * a + s) j = nI (Hs H s j)) → gd_G g mX2_copyFrom d 0 0 105 [(0, zR 2 a), (1, zR 2 b), (2, zI (nI i))] [] u Q := by
    intro k
    induction k with
    | zero =>
      intro i u hi hf m o c dd ss
      have e : i = Hh H 1 := by omega
      subst e
      refine w_X2_copyFrom_105 hd (pk_le (Hh H 1) (Hh H 1) (fun _ => hQ u hf ⟨m, o, dd, ss, ?_, ?_, fun k hk => ?_⟩) (fun q => absurd q (Nat.lt_irrefl _)) (m 1 (by omega)) rfl (by omega) (by omega))
      · rw [c, hf.2.1]; exact hR.2.2.2.2.1
      · rw [c, hf.2.1]; exact hR.2.2.2.2.2.1
      · rw [c, hf.I (fun _ => fh_n (by decide) (by decide) (by decide))]; exact hR.2.2.2.2.2.2 k hk
    | succ k ih =>
      intro i u hi hf m o c dd ss
      have hlt : i < Hh H 1 := by omega
      refine w_X2_copyFrom_105 hd (pk_le (Hh H 1) i (fun q => absurd q (by omega)) (fun _ => ⟨nu_in (by omega) (by omega), nu_in (by omega) (by omega), ?_⟩) (m 1 (by omega)) rfl (by omega) (by omega))
      rw [nI_clamp (by omega)]
      refine k_copyS (by omega) (fun v1 f1 c1 => ?_)
      rw [gd_rV_at, nu_1]
      have o1 : ∀ q, ¬ q = 24 * a + i → ∀ K, v1.1 K q = u.1 K q ∧ v1.2.1 K q = u.2.1 K q := fun q hq K => ⟨f1.I (fun _ z => hq (Prod.mk.inj (List.mem_singleton.mp z)).2), f1.J (fun _ z => hq (Prod.mk.inj (List.mem_singleton.mp z)).2)⟩
      have o2 : ∀ K q, ¬ K = 9 → v1.1 K q = u.1 K q ∧ v1.2.1 K q = u.2.1 K q := fun K q hK => ⟨f1.I (fun _ z => hK (Prod.mk.inj (List.mem_singleton.mp z)).1), f1.J (fun _ z => hK (Prod.mk.inj (List.mem_singleton.mp z)).1)⟩
      refine ih (i + 1) v1 (by omega) (hf.tr ((f1.wk (fun k i2 j q => ?_)).C)) (fun j hj => ?_) ?_ ?_ (fun i2 hi2 => ?_) (fun s hs j hj => ?_)
      · obtain ⟨q1, q2⟩ := Prod.mk.inj (List.mem_singleton.mp q)
        rw [q1, q2]; exact fh9 (by omega)
      · rw [(o2 2 a (by decide)).1]; exact m j hj
      · rw [(o2 2 a (by decide)).2]; exact o
      · rw [f1.2]; exact c
      · rw [(o2 0 _ (by decide)).1, (o2 0 _ (by decide)).2]; exact dd i2 hi2
      · by_cases e : s = i
        · subst e
          rw [c1 j hj, hf.I (x3 s (by omega))]; exact hR.2.2.2.1 s hlt j hj
        · rw [(o1 _ (by omega) 9).1]; exact ss s (by omega) j hj
  -- dealers
  have dea : ∀ k i (u : gd_D), i + k = Hh H 0 → frC (fh a) a v u → (∀ j, j < 7 → u.1 2 a (j + 2) = nI (Hh H j)) → u.2.1 2 a 9 = Ho H → u.2.2.1 a = v.2.2.1 b → (∀ q, q < i → u.1 0 (8 * a + q) 0 = nI (Hd H q 0) ∧ u.1 0 (8 * a + q) 5 = nI (Hd H q 5) ∧ ∀ j, 1 ≤ j → j ≤ 4 → u.2.1 0 (8 * a + q) j = Hj H q j) → gd_G g mX2_copyFrom d 0 0 74 [(0, zR 2 a), (1, zR 2 b), (2, zI (nI i))] [] u Q := by
    intro k
    induction k with
    | zero =>
      intro i u hi hf m o c dd
      have e : i = Hh H 0 := by omega
      subst e
      exact w_X2_copyFrom_74 hd (pk_le (Hh H 0) (Hh H 0) (fun _ => sal (Hh H 1) 0 u (by omega) hf m o c dd (fun s hs => absurd hs (Nat.not_lt_zero s))) (fun q => absurd q (Nat.lt_irrefl _)) (m 0 (by omega)) rfl (by omega) (by omega))
    | succ k ih =>
      intro i u hi hf m o c dd
      have hlt : i < Hh H 0 := by omega
      refine w_X2_copyFrom_74 hd (pk_le (Hh H 0) i (fun q => absurd q (by omega)) (fun _ => ⟨nu_in (by omega) (by omega), nu_in (by omega) (by omega), ?_⟩) (m 0 (by omega)) rfl (by omega) (by omega))
      rw [nI_clamp (by omega)]
      refine k_copyD (by omega) (fun v1 f1 c1 c2 c3 => ?_)
      rw [gd_rV_at, nu_1]
      have o1 : ∀ q, ¬ q = 8 * a + i → ∀ K, v1.1 K q = u.1 K q ∧ v1.2.1 K q = u.2.1 K q := fun q hq K => ⟨f1.I (fun _ z => hq (Prod.mk.inj (List.mem_singleton.mp z)).2), f1.J (fun _ z => hq (Prod.mk.inj (List.mem_singleton.mp z)).2)⟩
      have o2 : ∀ K q, ¬ K = 0 → v1.1 K q = u.1 K q ∧ v1.2.1 K q = u.2.1 K q := fun K q hK => ⟨f1.I (fun _ z => hK (Prod.mk.inj (List.mem_singleton.mp z)).1), f1.J (fun _ z => hK (Prod.mk.inj (List.mem_singleton.mp z)).1)⟩
      refine ih (i + 1) v1 (by omega) (hf.tr ((f1.wk (fun k i2 j q => ?_)).C)) (fun j hj => ?_) ?_ ?_ (fun q hq => ?_)
      · obtain ⟨q1, q2⟩ := Prod.mk.inj (List.mem_singleton.mp q)
        rw [q1, q2]; exact fh0 (by omega)
      · rw [(o2 2 a (by decide)).1]; exact m j hj
      · rw [(o2 2 a (by decide)).2]; exact o
      · rw [f1.2]; exact c
      · by_cases e : q = i
        · subst e
          have hb := hR.2.2.1 q hlt
          refine ⟨?_, ?_, fun j h1 h4 => ?_⟩
          · rw [c1, hf.I (x2 q (by omega))]; exact hb.1
          · rw [c2, hf.I (x2 q (by omega))]; exact hb.2.1
          · rw [c3 j h1 h4, hf.J (x2 q (by omega))]; exact hb.2.2 j h1 h4
        · rw [(o1 _ (by omega) 0).1, (o1 _ (by omega) 0).2]; exact dd q (by omega)
  exact dea (Hh H 0) 0 u9 (by omega) F9 m9 o9 c9 (fun q hq => absurd hq (Nat.not_lt_zero q))
end CP2
