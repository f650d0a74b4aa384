/-! THE CALLS: foretold -/
/-- n nights on -/
noncomputable def ntn (H : hs_T) : Nat → hs_T
  | 0 => H
  | n + 1 => nt (ntn H n)
theorem ntn_keeps {H : hs_T} (hW : hs_W H) : ∀ n, Hh H 2 + n ≤ 5000 → hs_W (ntn H n) ∧ Hh (ntn H n) 2 = Hh H 2 + n
  | 0, _ => ⟨hW, rfl⟩
  | n + 1, h => by
    obtain ⟨i1, i2⟩ := ntn_keeps hW n (by omega)
    have := nt_keeps i1 (by omega)
    refine ⟨this.1, ?_⟩
    show Hh (nt (ntn H n)) 2 = _
    rw [this.2.2, i2]; omega
noncomputable def gs_fore (H : hs_T) (n : Nat) : Nat := if Hh H 2 + n ≤ 5000 then nt_u (ntn H (n - 1)) else 0
section CF2
variable {g : ab_E} {d : Nat} {v : gd_D} {Q : ab_O → gd_D → Prop} {S : gs_T}
theorem fN10_W : ∀ k i j, fN 10 k i j → fW k i j := fun k i j q => by
  rcases q with q | q
  · exact Or.inr (Or.inl q)
  · refine Or.inr (Or.inr ?_)
    have q2 : (k, i) ∈ fNl := q
    have : ∀ p ∈ fNl, p.1 ∈ [3, 4, 5, 6, 8, 16, 17, 18, 19, 20, 21, 22, 23, 24, 25, 26, 27, 28, 29, 30, 36, 37] := by decide
    exact this (k, i) q2
/-- house 9 is kept where house 10 and the night's tools change -/
theorem cr9_keep {X : Nat → Nat → Nat → Prop} {P : Nat → Prop} {v' : gd_D} {H : hs_T} (hR : cr_R v 9 H) (hW : hs_W H) (hf : frD X P v v') (hX : ∀ k i j, X k i j → fN 10 k i j) (hP : ¬ P 9) : cr_R v' 9 H := by
  have no : ∀ k i j, fh 9 k i j → ¬ X k i j := fun k i j q z => by
    rcases hX k i j z with y | y
    · rcases q with q | q | q <;> rcases y with y | y | y <;> omega
    · have y2 : (k, i) ∈ fNl := y
      have : ∀ p ∈ fNl, ¬ p.1 = 2 ∧ ¬ p.1 = 0 ∧ ¬ p.1 = 9 := by decide
      have := this (k, i) y2
      rcases q with q | q | q <;> omega
  have no15 : ∀ i j, ¬ X 15 i j := fun i j z => by
    rcases hX 15 i j z with y | y
    · exact fh_n (by decide) (by decide) (by decide) y
    · have y2 : (15, i) ∈ fNl := y
      have : ∀ p ∈ fNl, ¬ p.1 = 15 := by decide
      exact this (15, i) y2 rfl
  exact hR.keptC hW.1 hW.2.1 ⟨hf.I (fun j => no 2 9 j fh2), hf.J (fun j => no 2 9 j fh2)⟩ (fun i hi => ⟨hf.I (fun j => no 0 _ j (fh0 hi)), hf.J (fun j => no 0 _ j (fh0 hi))⟩) (fun i hi => hf.I (fun j => no 9 _ j (fh9 hi))) hf.2.1 (hf.2.2 9 hP) (hf.I (no15 _))
theorem k_foretold {x : Int32} (hd : 44 ≤ d) (hG : gc_R v S) (hS : gs_ok S) (h1 : ∀ n v', 1 ≤ n → n ≤ 30 → x = nI n → fcl v v' → gc_R v' S → Q (Sum.inl (some (zI (nI (gs_fore S.1 n))))) v') (h0 : ¬ (nI 1 ≤ x ∧ x ≤ nI 30) → ∀ v', fcl v v' → gc_R v' (gs_no S 1) → Q (Sum.inr "java/lang/IllegalArgumentException") v') : gd_C g mX10_foretold d 1 6 [zR 10 0, zI x] v Q := by
  refine c_X10_foretold (by omega) (k_needWithin (Nat.le_refl 9) hG hS (fun q1 q2 => ?_) (fun q v' f G => h0 q v' f G))
  rw [gd_rV_at]
  obtain ⟨n, n1, n2, e⟩ := nu_rng (a := 1) (b := 30) (by omega) (by omega) q1 q2
  subst e
  refine k_copyFrom (Nat.le_refl 3) (by omega) hG.1 hS.1 (fun v1 f1 R1 => ?_)
  rw [gd_rV_at]
  have hday := hS.1.2.2.1
  have ok : ∀ u : gd_D, frD (fN 10) (fun x => x = 10) v u → fcl v u ∧ gc_R u S := fun u hf => by
    have hW : frD fW pW v u := hf.wk fN10_W (fun x q => Or.inr q)
    exact ⟨fW_cl hW, gc_house (H' := S.1) hG hS hW (cr9_keep hG.1 hS.1 hf (fun k i j q => q) (by decide))⟩
  have key : ∀ k i (u : gd_D), i + k = n → Hh S.1 2 + i ≤ 5000 ∨ i = 0 → hs_W (ntn S.1 i) → Hh (ntn S.1 i) 2 = Hh S.1 2 + i → frD (fN 10) (fun x => x = 10) v u → cr_R u 10 (ntn S.1 i) → (1 ≤ i → u.1 4 0 4 = nI (nt_u (ntn S.1 (i - 1)))) → gd_G g mX10_foretold d 0 0 21 [(0, zR 10 0), (1, zI (nI n)), (2, zI (nI i))] [] u Q := by
    intro k
    induction k with
    | zero =>
      intro i u hi hle hKW hKd hf hK hu
      have e : i = n := by omega
      subst e
      obtain ⟨C, G⟩ := ok u hf
      refine w_X10_foretold_21 hd (pk_le i i (fun _ => ?_) (fun q => absurd q (Nat.lt_irrefl _)) rfl rfl (by omega) (by omega))
      rw [hu n1]
      have := h1 i u n1 n2 rfl C G
      unfold gs_fore at this
      rw [if_pos (by omega)] at this
      exact this
    | succ k ih =>
      intro i u hi hle hKW hKd hf hK hu
      have e4 : u.1 2 10 4 = nI (Hh S.1 2 + i) := by rw [← hKd]; exact hK.1 2 (by omega)
      refine w_X10_foretold_21 hd (pk_le n i (fun q => absurd q (by omega)) (fun _ => pk_lt (Hh S.1 2 + i) 5000 (fun q => ?_) (fun q => ?_) e4 rfl (by omega) (by omega)) rfl rfl (by omega) (by omega))
      · refine k_pass (Nat.le_refl 43) hK hKW (fun v2 f2 R2 p1 p2 p3 => ?_)
        rw [gd_rV_at, nu_1]
        have kn := nt_keeps hKW (by omega)
        refine ih (i + 1) v2 (by omega) (by omega) kn.1 ?_ (hf.tr f2.D) R2 (fun _ => p2)
        show Hh (nt (ntn S.1 i)) 2 = _
        rw [kn.2.2, hKd]; omega
      · obtain ⟨C, G⟩ := ok u hf
        have := h1 n u n1 n2 rfl C G
        unfold gs_fore at this
        rw [if_neg (by omega)] at this
        exact this
  refine key n 0 v1 (by omega) (Or.inr rfl) hS.1 rfl ((f1.D (P := fun x => x = 10) rfl).wk (fun k i j q => Or.inl q) (fun x q => q)) R1 (fun q => absurd q (by omega))
end CF2
