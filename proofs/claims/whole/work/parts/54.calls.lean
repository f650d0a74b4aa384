/-! THE CALLS: rule, between, outside, fault, status, buyin -/
section CB
variable {g : ab_E} {d : Nat} {v : gd_D} {Q : ab_O → gd_D → Prop} {S : gs_T}
/-- questions change nothing of the state -/
theorem gc_same {v' : gd_D} (hG : gc_R v S) (hS : gs_ok S) (hf : fr fW v v') (h9 : ∀ k i j, fh 9 k i j → v'.1 k i j = v.1 k i j ∧ v'.2.1 k i j = v.2.1 k i j) : gc_R v' S := by
  have hR : cr_R v' 9 S.1 := by
    refine hG.1.kept hS.1.1 hS.1.2.1 ⟨funext fun j => (h9 2 9 j fh2).1, funext fun j => (h9 2 9 j fh2).2⟩ (fun i hi => ⟨funext fun j => (h9 0 _ j (fh0 hi)).1, funext fun j => (h9 0 _ j (fh0 hi)).2⟩) (fun i hi => funext fun j => (h9 9 _ j (fh9 hi)).1) hf.2 (hf.I (fun _ => fW_no rfl))
  exact gc_house hG hS hf.D hR
theorem gc_tool {l : List (Nat × Nat)} {v' : gd_D} (hG : gc_R v S) (hS : gs_ok S) (hf : fr (fy l) v v') (hl : l.all (fun p => decide (p.1 ∈ [3, 4, 5, 6, 8, 16, 17, 18, 19, 20, 21, 22, 23, 24, 25, 26, 27, 28, 29, 30, 36, 37])) = true) : gc_R v' S ∧ fcl v v' := by
  have hX : ∀ k i j, fy l k i j → k ∈ [3, 4, 5, 6, 8, 16, 17, 18, 19, 20, 21, 22, 23, 24, 25, 26, 27, 28, 29, 30, 36, 37] := fun k i j q => of_decide_eq_true (List.all_eq_true.mp hl (k, i) q)
  have hW : fr fW v v' := hf.wk (fun k i j q => Or.inr (Or.inr (hX k i j q)))
  refine ⟨gc_same hG hS hW (fun k i j q => hf.1 k i j (fun z => ?_)), fW_cl hW.D⟩
  have := hX k i j z
  rcases q with q | q | q <;> (rw [q.1] at this; exact absurd this (by decide))
theorem gr_tool {ks : List Nat} {v' : gd_D} (hG : gr_R v S) (hf : fr (fx ks) v v') (hl : ks.all (fun k => decide (k ∈ [42, 46, 47, 48, 49, 50, 51, 52, 53, 54, 56, 57, 58, 59, 60, 61, 62])) = true) : gr_R v' S ∧ fre v v' ∧ v'.1 11 0 0 = v.1 11 0 0 := by
  have hX : ∀ k i j, fx ks k i j → k ∈ [42, 46, 47, 48, 49, 50, 51, 52, 53, 54, 56, 57, 58, 59, 60, 61, 62] := fun k i j q => of_decide_eq_true (List.all_eq_true.mp hl k q)
  have hV : fr fV v v' := hf.wk (fun k i j q => Or.inl (by
    have := hX k i j q
    simp only [List.mem_cons, List.not_mem_nil, or_false] at this ⊢
    omega))
  have no : ∀ k i j, decide (k ∈ [42, 46, 47, 48, 49, 50, 51, 52, 53, 54, 56, 57, 58, 59, 60, 61, 62]) = false → ¬ fx ks k i j := fun k i j q z => of_decide_eq_false q (hX k i j z)
  refine ⟨gr_house hG hV (by rw [hf.J (fun j => no 40 0 j rfl)]; exact hG.1) (by rw [hf.I (fun j => no 55 0 j rfl)]; exact hG.2.2.2.2.2.2), fV_re hV, by rw [hf.I (fun j => no 11 0 j rfl)]⟩
theorem k_rule {x : Int32} (hd : 10 ≤ d) (hG : gc_R v S) (hS : gs_ok S) (h1 : ∀ s v', s < Hh S.1 1 → x = nI s → fcl v v' → gc_R v' S → Q (Sum.inl (some (zJ (rp_w S.1 s)))) v') (h0 : (∀ i, i < Hh S.1 1 → ¬ x = nI i) → ∀ v', fcl v v' → gc_R v' (gs_no S 0) → Q (Sum.inr "java/util/NoSuchElementException") v') : gd_C g mX10_rule d 1 6 [zR 10 0, zI x] v Q := by
  have h24 := hS.1.2.1
  refine c_X10_rule hd (k_needSale (Nat.le_refl 9) hG hS (fun s hs e => ?_) (fun q v' f G => h0 q v' f G))
  subst e
  rw [gd_rV_at, nI_clamp (by omega)]
  refine ⟨nu_in (by omega) (by omega), k_worthOf (Nat.le_refl 3) hG.1 hS.1 hs (fun v1 f1 => ?_)⟩
  obtain ⟨G1, C1⟩ := gc_tool hG hS f1 (by decide)
  exact h1 s v1 hs rfl C1 G1
theorem rr_rule {x : Int32} (hd : 5 ≤ d) (hG : gr_R v S) (hS : gs_ok S) (h1 : ∀ s v', s < Hh S.1 1 → x = nI s → fre v v' → v'.1 11 0 0 = 0 → gr_R v' S → Q (Sum.inl (some (zJ (rp_w S.1 s)))) v') (h0 : (∀ i, i < Hh S.1 1 → ¬ x = nI i) → ∀ v', fre v v' → v'.1 11 0 0 = 1 → gr_R v' (gs_no S 0) → Q (Sum.inl (some (zJ 0))) v') : gd_C g mX11_rule d 0 0 [zR 11 0, zI x] v Q := by
  obtain ⟨b1, b2, b3⟩ := gr_begin hG
  refine c_X11_rule hd ?_
  rintro _ rfl
  refine r_isSale (Nat.le_refl 3) b1.1 hS.1 (fun s hs e => ?_) (fun hno => ?_)
  · subst e
    rw [gd_rI_at]
    refine r_fine1 (by decide) b3 ⟨fun z => absurd z (by decide), fun _ => r_ruled (Nat.le_refl 4) b1.1 hS.1 hs (fun v1 f1 => ?_)⟩
    obtain ⟨G1, F1, T1⟩ := gr_tool b1 f1 (by decide)
    exact h1 s v1 hs rfl (b2.tr F1) (T1.trans b3) G1
  · rw [gd_rI_at]
    refine r_fine0 (k := 0) (by decide) (by decide) b3 ?_
    obtain ⟨n1, n2, n3⟩ := gr_no (c := 1) (k := 0) (by decide) b1
    exact ⟨fun _ => h0 hno _ (b2.tr n2) n3 n1, fun z => absurd rfl z⟩
theorem k_between {x y : Int32} (hd : 10 ≤ d) (hG : gc_R v S) (hS : gs_ok S) (h1 : ∀ a b, a < Hh S.1 0 → b < Hh S.1 0 → x = nI a → y = nI b → Q (Sum.inl (some (zI (nI (hu S.1 (some a) (some b) (Hh S.1 1)))))) v) (h0 : ¬ ((∃ i, i < Hh S.1 0 ∧ x = nI i) ∧ ∃ i, i < Hh S.1 0 ∧ y = nI i) → ∀ v', fcl v v' → gc_R v' (gs_no S 0) → Q (Sum.inr "java/util/NoSuchElementException") v') : gd_C g mX10_between d 2 12 [zR 10 0, zI x, zI y] v Q := by
  have h8 := hS.1.1
  refine c_X10_between hd (k_needDealer (Nat.le_refl 9) hG hS (fun a ha e => ?_) (fun q v' f G => h0 (fun ⟨⟨i, i1, i2⟩, _⟩ => q i i1 i2) v' f G))
  rw [gd_rV_at]
  refine k_needDealer (Nat.le_refl 9) hG hS (fun b hb e2 => ?_) (fun q v' f G => h0 (fun ⟨_, i, i1, i2⟩ => q i i1 i2) v' f G)
  subst e; subst e2
  rw [gd_rV_at]
  exact k_unitsOf (a := some a) (b := some b) (fun z hz => by cases hz; omega) (fun z hz => by cases hz; omega) (Nat.le_refl 3) hG.1 hS.1 (h1 a b ha hb rfl rfl)
theorem rr_between {x y : Int32} (hd : 5 ≤ d) (hG : gr_R v S) (hS : gs_ok S) (h1 : ∀ a b v', a < Hh S.1 0 → b < Hh S.1 0 → x = nI a → y = nI b → fre v v' → v'.1 11 0 0 = 0 → gr_R v' S → Q (Sum.inl (some (zI (nI (hu S.1 (some a) (some b) (Hh S.1 1)))))) v') (h0 : ¬ ((∃ i, i < Hh S.1 0 ∧ x = nI i) ∧ ∃ i, i < Hh S.1 0 ∧ y = nI i) → ∀ v', fre v v' → v'.1 11 0 0 = 1 → gr_R v' (gs_no S 0) → Q (Sum.inl (some (zI 0))) v') : gd_C g mX11_between d 0 0 [zR 11 0, zI x, zI y] v Q := by
  have h8 := hS.1.1
  obtain ⟨b1, b2, b3⟩ := gr_begin hG
  have no : ¬ ((∃ i, i < Hh S.1 0 ∧ x = nI i) ∧ ∃ i, i < Hh S.1 0 ∧ y = nI i) → wp_X11_between_27 g d x y 0 (gd_sI v 11 0 0 0) Q := by
    intro hn
    refine r_fine0 (k := 0) (by decide) (by decide) b3 ?_
    obtain ⟨n1, n2, n3⟩ := gr_no (c := 1) (k := 0) (by decide) b1
    exact ⟨fun _ => h0 hn _ (b2.tr n2) n3 n1, fun z => absurd rfl z⟩
  refine c_X11_between hd ?_
  rintro _ rfl
  refine r_isDealer (Nat.le_refl 3) b1.1 hS.1 (fun a ha e => ?_) (fun hno => ⟨fun _ => no (fun ⟨⟨i, i1, i2⟩, _⟩ => hno i i1 i2), fun z => absurd rfl z⟩)
  rw [gd_rI_at]
  refine ⟨fun z => absurd z (by decide), fun _ => ?_⟩
  refine r_isDealer (Nat.le_refl 3) b1.1 hS.1 (fun b hb e2 => ?_) (fun hno => ⟨fun _ => no (fun ⟨_, i, i1, i2⟩ => hno i i1 i2), fun z => absurd rfl z⟩)
  subst e; subst e2
  rw [gd_rI_at]
  refine ⟨fun z => absurd z (by decide), fun _ => ?_⟩
  refine r_fine1 (by decide) b3 ⟨fun z => absurd z (by decide), fun _ => ?_⟩
  exact r_unitsOf (a := some a) (b := some b) (fun z hz => by cases hz; omega) (fun z hz => by cases hz; omega) (Nat.le_refl 4) b1.1 hS.1 (h1 a b _ ha hb rfl rfl b2 b3 b1)
theorem k_outside (hG : gc_R v S) (h : Q (Sum.inl (some (zJ (Ho S.1)))) v) : gd_C g mX10_outside d 0 0 [zR 10 0] v Q := by
  refine c_X10_outside (Nat.zero_le _) ?_
  show Q (Sum.inl (some (zJ (v.2.1 2 9 9)))) v
  rw [hG.1.2.1]; exact h
theorem rr_outside (hG : gr_R v S) (h : ∀ v', fre v v' → v'.1 11 0 0 = 0 → gr_R v' S → Q (Sum.inl (some (zJ (Ho S.1)))) v') : gd_C g mX11_outside d 0 0 [zR 11 0] v Q := by
  obtain ⟨b1, b2, b3⟩ := gr_begin hG
  refine c_X11_outside (Nat.zero_le _) ?_
  rintro _ rfl
  refine ⟨nu_in (n := 8) (by decide) (by decide), ?_⟩
  rw [show ((8 : Int32)).toNatClampNeg = 8 from by decide, b1.1.2.2.1]
  exact h _ b2 b3 b1
theorem k_fault (hG : gc_R v S) (h : Q (Sum.inl (some (zI S.2.2.2.1))) v) : gd_C g mX10_fault d 0 0 [zR 10 0] v Q := by
  refine c_X10_fault (Nat.zero_le _) ?_
  show Q (Sum.inl (some (zI (v.1 10 0 10)))) v
  rw [hG.2.2.2.2.1]; exact h
theorem rr_fault (hG : gr_R v S) (h : ∀ v', fre v v' → v'.1 11 0 0 = 0 → gr_R v' S → Q (Sum.inl (some (zI S.2.2.2.1))) v') : gd_C g mX11_fault d 0 0 [zR 11 0] v Q := by
  obtain ⟨b1, b2, b3⟩ := gr_begin hG
  refine c_X11_fault (Nat.zero_le _) ?_
  rintro _ rfl
  rw [b1.2.2.2.2.1]
  exact h _ b2 b3 b1
end CB
