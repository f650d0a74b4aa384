/-! THE CALLS: text, the class's side -/
def gs_text (S : gs_T) (n : Nat) : gs_T := match pText S.2.2.1.2 n with
  | Sum.inl e => (S.1, S.2.1, (0, S.2.2.1.2), nI e.2, S.2.2.2.2)
  | Sum.inr q => (q.2.1, hl_add S.2.1 S.1, (0, S.2.2.1.2), -1, S.2.2.2.2)
def gs_textv (S : gs_T) (n : Nat) : Int32 := match pText S.2.2.1.2 n with
  | Sum.inl e => nI e.1 - 10
  | Sum.inr q => nI (Hh q.2.1 1)
theorem pTx_g {T : Nat → Int32} {n : Nat} (hn5 : n ≤ 500) : ∀ k p u, stt T n p → uOK u → match pTx T n k p u with
    | Sum.inl e => 1 ≤ e.1 ∧ e.1 ≤ 4 ∧ e.2 ≤ n
    | Sum.inr q => uOK q.2
  | 0, p, u, _, hu => hu
  | k + 1, p, u, hst, hu => by
    show match (if p < n then (match pLine T n p u with
      | Sum.inl e => Sum.inl e
      | Sum.inr q => (match yG T n 59 q.1 with
        | Sum.inl e => Sum.inl e
        | Sum.inr q' => pTx T n k q' q.2)) else Sum.inr (p, u) : rL) with
      | Sum.inl e => 1 ≤ e.1 ∧ e.1 ≤ 4 ∧ e.2 ≤ n
      | Sum.inr q => uOK q.2
    by_cases hlt : p < n
    · rw [if_pos hlt]
      have hg := pLine_g hst hlt hn5 hu
      cases hx : pLine T n p u with
      | inl e => rw [hx] at hg; exact hg
      | inr q =>
        rw [hx] at hg
        obtain ⟨g1, g2, g3⟩ := hg
        show match (match yG T n 59 q.1 with
          | Sum.inl e => Sum.inl e
          | Sum.inr q' => pTx T n k q' q.2 : rL) with
          | Sum.inl e => 1 ≤ e.1 ∧ e.1 ≤ 4 ∧ e.2 ≤ n
          | Sum.inr q => uOK q.2
        cases hy : yG T n 59 q.1 with
        | inl e =>
          unfold yG at hy
          split at hy
          · cases hy
          · cases hy; exact ⟨by show 1 ≤ 1; omega, by show 1 ≤ 4; omega, g2.1⟩
        | inr q' =>
          have hq' : stt T n q' := by
            unfold yG at hy
            split at hy
            · rename_i hc; cases hy; exact (nx_sp hc.1).2
            · cases hy
          exact pTx_g hn5 k q' q.2 hq' g3
    · rw [if_neg hlt]; exact hu
theorem pText_g {T : Nat → Int32} {n : Nat} (hn5 : n ≤ 500) : match pText T n with
    | Sum.inl e => 1 ≤ e.1 ∧ e.1 ≤ 4 ∧ e.2 ≤ n
    | Sum.inr q => uOK q.2 := pTx_g hn5 n _ _ (stt_rn (Nat.zero_le _)) u_0_ok
theorem gs_text_ok {S : gs_T} {n : Nat} (hS : gs_ok S) (hn : n ≤ S.2.2.1.1) : gs_ok (gs_text S n) := by
  have hl := hS.2.2
  have hg := pText_g (T := S.2.2.1.2) (n := n) (by omega)
  unfold gs_text
  cases hx : pText S.2.2.1.2 n with
  | inl e => exact ⟨hS.1, hS.2.1, Nat.zero_le _⟩
  | inr q => rw [hx] at hg; exact ⟨hg.1, hl_add_W hS.2.1 hS.1, Nat.zero_le _⟩
section CTX
variable {g : ab_E} {d : Nat} {v : gd_D} {Q : ab_O → gd_D → Prop} {S : gs_T}
/-- keeping, with its frame -/
theorem k_keepH (hd : 4 ≤ d) (hG : gc_R v S) (hS : gs_ok S) (hQ : ∀ v', frD fH pH v v' → gc_R v' (gs_kept S) → Q (Sum.inl none) v') : gd_C g mX1_keep d 0 0 [zR 1 0, zR 2 9] v Q := by
  obtain ⟨a1, a2, a3, a4, a5, a6⟩ := hG
  refine k_keep hd (by omega) a1 hS.1 a2 hS.2.1 (fun v' hf hL => hQ v' hf ?_)
  have no : ∀ k i, ¬ k = 1 → ¬ k = 2 → ¬ k = 0 → ¬ k = 9 → ∀ j, ¬ fH k i j := fun k i h1 h2 h0 h9 j q => by
    rcases q with q | ⟨n, _, _, q⟩
    · omega
    · rcases q with q | q | q <;> omega
  have no2 : ∀ j, ¬ fH 2 9 j := fun j q => by
    rcases q with q | ⟨n, _, _, q⟩
    · omega
    · rcases q with q | q | q <;> omega
  have no0 : ∀ i, i < 8 → ∀ j, ¬ fH 0 (8 * 9 + i) j := fun i hi j q => by
    rcases q with q | ⟨n, _, _, q⟩
    · omega
    · rcases q with q | q | q <;> omega
  have no9 : ∀ i, i < 24 → ∀ j, ¬ fH 9 (24 * 9 + i) j := fun i hi j q => by
    rcases q with q | ⟨n, _, _, q⟩
    · omega
    · rcases q with q | q | q <;> omega
  refine ⟨a1.keptC hS.1.1 hS.1.2.1 ⟨hf.I no2, hf.J no2⟩ (fun i hi => ⟨hf.I (no0 i hi), hf.J (no0 i hi)⟩) (fun i hi => hf.I (no9 i hi)) hf.2.1 (hf.2.2 9 (fun q => by have := q.2; omega)) (hf.I (no 15 _ (by decide) (by decide) (by decide) (by decide))), hL, ?_, ?_, ?_, ?_⟩
  · rw [hf.I (no 7 0 (by decide) (by decide) (by decide) (by decide))]; exact a3
  · rw [hf.I (no 31 0 (by decide) (by decide) (by decide) (by decide))]; exact a4
  · rw [hf.I (no 10 0 (by decide) (by decide) (by decide) (by decide))]; exact a5
  · rw [hf.I (no 38 0 (by decide) (by decide) (by decide) (by decide))]; exact a6
/-- house 0 is far from what is kept -/
theorem cr0_keep {v' : gd_D} {H : hs_T} (hR : cr_R v 0 H) (hW : hs_W H) (hf : frD fH pH v v') : cr_R v' 0 H := by
  have no : ∀ k i, (k = 2 ∧ i = 0) ∨ (k = 0 ∧ i < 8) ∨ (k = 9 ∧ i < 24) ∨ k = 15 → ∀ j, ¬ fH k i j := fun k i h j q => by
    rcases q with q | ⟨n, n1, n2, q⟩
    · omega
    · rcases q with q | q | q <;> omega
  exact hR.keptC hW.1 hW.2.1 ⟨hf.I (no 2 0 (by omega)), hf.J (no 2 0 (by omega))⟩ (fun i hi => ⟨hf.I (no 0 _ (by omega)), hf.J (no 0 _ (by omega))⟩) (fun i hi => hf.I (no 9 _ (by omega))) hf.2.1 (hf.2.2 0 (fun q => by have := q.1; omega)) (hf.I (no 15 _ (by omega)))
theorem k_text {x : Int32} (hd : 44 ≤ d) (hG : gc_R v S) (hS : gs_ok S) (hl0 : v.2.2.2.2.1 0 = 0) (h1 : ∀ n v', n ≤ S.2.2.1.1 → x = nI n → fcl v v' → gc_R v' (gs_text S n) → Q (Sum.inl (some (zI (gs_textv S n)))) v') (h0 : ¬ (nI 0 ≤ x ∧ x ≤ nI S.2.2.1.1) → ∀ v', fcl v v' → gc_R v' (gs_no S 1) → Q (Sum.inr "java/lang/IllegalArgumentException") v') : gd_C g mX10_text d 2 506 [zR 10 0, zI x] v Q := by
  have hl := hS.2.2
  refine c_X10_text (by omega) ?_
  unfold wp_X10_text
  rw [hG.2.2.1]
  refine k_needWithin (Nat.le_refl 9) hG hS (fun q1 q2 => ?_) (fun q v' f G => h0 q v' f G)
  rw [gd_rV_at]
  obtain ⟨n, -, n2, e⟩ := nu_rng (a := 0) (b := S.2.2.1.1) (by omega) (by omega) q1 q2
  subst e
  have hnc : 0 < v.2.2.2.1 := Nat.lt_of_le_of_lt (Nat.zero_le _) hG.1.2.2.2.2.1
  refine k_readTape (T := S.2.2.1.2) (Nat.le_refl 42) hG.2.2.1 hl n2 (fun j hj => hG.2.2.2.1 j (by omega)) hnc hl0 (fun v3 m fI fC fN fL fs e2 U3 => ?_)
  rw [gd_rV_at]
  rintro _ rfl
  have noX : ∀ k i j, ¬ k = 7 → ¬ k = 32 → ¬ k = 33 → ¬ k = 34 → ¬ k = 35 → ¬ (k = 15 ∧ v.2.2.2.1 ≤ i) → ¬ fh 0 k i j → v3.1 k i j = v.1 k i j ∧ v3.2.1 k i j = v.2.1 k i j := fun k i j a1 a2 a3 a4 a5 a6 a7 => fI k i j (fun q => by
    rcases q with q | q | q
    · rcases q with q | q <;> omega
    · omega
    · rcases q with q | q | q | q
      · exact fQ_no a1 a5 q
      · omega
      · exact a7 q
      · exact a6 q)
  have far : ∀ {K : hs_T} {hh : Nat}, cr_R v hh K → hs_W K → 1 ≤ hh → cr_R (gd_sI v3 10 0 10 (v3.1 7 0 4)) hh K := by
    intro K hh hR hW h1
    have w8 := hW.1
    have w24 := hW.2.1
    obtain ⟨a1, a2, a3, a4, a5, a6, a7⟩ := hR
    have nf : ∀ k i j, (k = 2 ∧ i = hh) ∨ (k = 0 ∧ 8 * hh ≤ i) ∨ (k = 9 ∧ 24 * hh ≤ i) ∨ k = 15 → ¬ fh 0 k i j := fun k i j h q => by rcases q with q | q | q <;> omega
    have o1 : ∀ k i j, (k = 2 ∧ i = hh) ∨ (k = 0 ∧ 8 * hh ≤ i) ∨ (k = 9 ∧ 24 * hh ≤ i) → (gd_sI v3 10 0 10 (v3.1 7 0 4)).1 k i j = v.1 k i j ∧ v3.2.1 k i j = v.2.1 k i j := fun k i j h => by
      have := noX k i j (by omega) (by omega) (by omega) (by omega) (by omega) (by omega) (nf k i j (by omega))
      exact ⟨by rw [sI_ne (by omega)]; exact this.1, this.2⟩
    refine ⟨fun j hj => by rw [(o1 2 hh _ (by omega)).1]; exact a1 j hj, by show v3.2.1 2 hh 9 = _; rw [(o1 2 hh _ (by omega)).2]; exact a2, fun i hi => ⟨by rw [(o1 0 _ _ (by omega)).1]; exact (a3 i hi).1, by rw [(o1 0 _ _ (by omega)).1]; exact (a3 i hi).2.1, fun j j1 j4 => by show v3.2.1 0 _ j = _; rw [(o1 0 _ _ (by omega)).2]; exact (a3 i hi).2.2 j j1 j4⟩, fun i hi j hj => by rw [(o1 9 _ _ (by omega)).1]; exact a4 i hi j hj, ?_, ?_, fun k hk => ?_⟩
    · show v3.2.2.1 hh < v3.2.2.2.1
      rw [fC hh (by omega)]; omega
    · show v3.2.2.2.2.1 (v3.2.2.1 hh) = _
      rw [fC hh (by omega), fL _ a5]; exact a6
    · show (gd_sI v3 10 0 10 (v3.1 7 0 4)).1 15 (v3.2.2.1 hh) k = _
      rw [fC hh (by omega), sI_ne (by omega), (noX 15 _ k (by decide) (by decide) (by decide) (by decide) (by decide) (by omega) (nf 15 _ k (by omega))).1]
      exact a7 k hk
  have o2 : ∀ k i j, k = 1 ∨ k = 10 ∨ k = 38 → v3.1 k i j = v.1 k i j := fun k i j h => (noX k i j (by omega) (by omega) (by omega) (by omega) (by omega) (by omega) (fun q => by rcases q with q | q | q <;> omega)).1
  have cl3 : fcl v (gd_sI v3 10 0 10 (v3.1 7 0 4)) := ⟨fun k i j hk => by
      have := noX k i j (by omega) (by omega) (by omega) (by omega) (by omega) (by omega) (fun q => by rcases q with q | q | q <;> omega)
      exact ⟨by rw [sI_ne (by omega)]; exact this.1, this.2⟩, fs, fL 0 hnc⟩
  have G5 : gc_R (gd_sI v3 10 0 10 (v3.1 7 0 4)) (S.1, S.2.1, (0, S.2.2.1.2), v3.1 7 0 4, S.2.2.2.2) := by
    obtain ⟨a1, ⟨nxx, b1, b2, b3, b4⟩, a3, a4, a5, a6⟩ := hG
    refine ⟨far a1 hS.1 (by omega), ⟨nxx, b1, by rw [sI_ne (by omega), o2 1 0 1 (by omega)]; exact b2, by rw [sI_ne (by omega), o2 1 0 2 (by omega)]; exact b3, fun j K hj => far (b4 j K hj) (hS.2.1.2 j K hj) (by omega)⟩, by rw [sI_ne (by omega)]; exact e2, fun j hj => absurd hj (by show ¬ j < 0; omega), sI_at, fun k hk => by rw [sI_ne (by omega), o2 38 0 k (by omega)]; exact a6 k hk⟩
  have t := h1 n (gd_sI v3 10 0 10 (v3.1 7 0 4)) n2 rfl cl3
  have e7 : (gd_sI v3 10 0 10 (v3.1 7 0 4)).1 7 0 3 = v3.1 7 0 3 := sI_ne (by omega)
  have hg := pText_g (T := S.2.2.1.2) (n := n) (by omega)
  rw [e7]
  cases hx : pText S.2.2.1.2 n with
  | inl e =>
    rw [hx] at U3 hg
    have U3 : kP v3 S.2.2.1.2 n m (Sum.inl e) := U3
    unfold gs_text gs_textv at t
    rw [hx] at t
    obtain ⟨ht, k, hk, hk2, f1, f2, f3, f4⟩ := id U3
    refine ⟨fun z => absurd z U3.dead, fun _ => ?_⟩
    rw [f3]
    refine t ?_
    have f4 : v3.1 7 0 4 = nI e.2 := f4
    rw [f4] at G5 ⊢
    exact G5
  | inr q =>
    rw [hx] at U3 hg
    obtain ⟨P3, R3, -⟩ := U3
    obtain ⟨ht, k, hk, hk2, f3, f4, f5⟩ := id P3
    refine ⟨fun _ => ?_, fun z => absurd f3 z⟩
    have hS5 : gs_ok (S.1, S.2.1, (0, S.2.2.1.2), v3.1 7 0 4, S.2.2.2.2) := ⟨hS.1, hS.2.1, Nat.zero_le _⟩
    refine k_keepH (Nat.le_refl 4) G5 hS5 (fun v6 f6 G6 => ?_)
    rw [gd_rV_at]
    have R5 : cr_R (gd_sI v3 10 0 10 (v3.1 7 0 4)) 0 q.2.1 := R3.far hg.1 (fr.sI (X := fy [(10, 0)]) (fy_y 0 rfl)) (fun _ _ => fy_n rfl) (fun _ _ => fy_n rfl) (fun _ _ => fy_n rfl) (fun _ _ => fy_n rfl)
    refine k_copyFrom (Nat.le_refl 3) (by omega) (cr0_keep R5 hg.1 f6) hg.1 (fun v8 f8 R8 => ?_)
    rw [gd_rV_at, show v8.1 2 9 3 = nI (Hh q.2.1 1) from R8.1 1 (by omega)]
    have f8' : frD fW pW v6 v8 := (f8.D (P := pW) (Or.inl rfl)).wk (fun k i j q => Or.inl q) (fun x q => q)
    have G8 := gc_house G6 (gs_kept_ok hS5) f8' R8
    have t2 := h1 n v8 n2 rfl ((cl3.tr (fH_cl f6)).tr (fW_cl f8'))
    unfold gs_text gs_textv at t2
    rw [hx] at t2
    refine t2 ?_
    rw [f4] at G8
    exact G8
end CTX
