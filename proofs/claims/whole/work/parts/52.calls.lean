/-! THE CALLS, one pair of contracts each: undo, night, mark -/
section CX
variable {g : ab_E} {d : Nat} {v : gd_D} {Q : ab_O → gd_D → Prop} {S : gs_T}
theorem fr.W {X : Nat → Nat → Nat → Prop} {v' : gd_D} (h : fr X v v') (hX : ∀ k i j, X k i j → fW k i j) : frD fW pW v v' := (h.wk hX).D
theorem k_untimely (hG : gc_R v S) (hS : gs_ok S) (h0 : ∀ v', fcl v v' → gc_R v' (gs_no S 2) → Q (Sum.inr "java/lang/IllegalStateException") v') : gd_C g mX10_refuseUntimely 8 1 6 [zR 10 0] v Q := by
  refine c_X10_refuseUntimely (by decide) ⟨nu_in (n := 2) (by decide) (by decide), nu_in (n := 2) (by decide) (by decide), ?_⟩
  rintro _ rfl
  exact h0 _ ((fr.sI (X := fy [(38, 0)]) (fy_y 0 rfl)).cl (fun k i j q => by rw [(Prod.mk.inj (List.mem_singleton.mp q)).1]; decide)) (gc_no (by decide) hG hS)
theorem k_undo (hd : 5 ≤ d) (hG : gc_R v S) (hS : gs_ok S) (h0 : S.2.1 = [] → Q (Sum.inl (some (zI (-1)))) v) (h1 : ∀ M K v', S.2.1 = M ++ [K] → fcl v v' → gc_R v' (K, M, S.2.2) → Q (Sum.inl (some (zI (nI M.length)))) v') : gd_C g mX10_undo d 0 0 [zR 10 0] v Q := by
  obtain ⟨a1, a2, a3, a4, a5, a6⟩ := hG
  refine c_X10_undo hd (k_takeBack (Nat.le_refl 4) (by omega) a2 hS.2.1 (fun e => h0 e) (fun M K v' e hf hR hL => ?_))
  rw [gd_rI_at]
  have no : ∀ k i, ¬ k = 1 → ¬ k = 2 → ¬ k = 0 → ¬ k = 9 → ∀ j, ¬ ((k = 1 ∧ i = 0) ∨ fh 9 k i j) := fun k i q1 q2 q0 q9 j q => by
    rcases q with q | q
    · exact q1 q.1
    · exact fh_n q2 q0 q9 q
  refine h1 M K v' e (hf.cl (fun k i j q => ?_)) ⟨hR, hL, ?_, ?_, ?_, ?_⟩
  · rcases q with q | q
    · omega
    · rcases q with q | q | q <;> omega
  · rw [hf.I (no 7 0 (by decide) (by decide) (by decide) (by decide))]; exact a3
  · rw [hf.I (no 31 0 (by decide) (by decide) (by decide) (by decide))]; exact a4
  · rw [hf.I (no 10 0 (by decide) (by decide) (by decide) (by decide))]; exact a5
  · rw [hf.I (no 38 0 (by decide) (by decide) (by decide) (by decide))]; exact a6
theorem rr_undo (hG : gr_R v S) (hS : gs_ok S) (h0 : S.2.1 = [] → ∀ v', fre v v' → v'.1 11 0 0 = 0 → gr_R v' S → Q (Sum.inl (some (zI (-1)))) v') (h1 : ∀ M K v', S.2.1 = M ++ [K] → fre v v' → v'.1 11 0 0 = 0 → gr_R v' (K, M, S.2.2) → Q (Sum.inl (some (zI (nI M.length)))) v') : gd_C g mX11_undo d 0 0 [zR 11 0] v Q := by
  have hb := gr_begin hG
  refine r_undo hG.2.1 hS.2.1 (fun e => h0 e _ hb.2.1 hb.2.2 hb.1) (fun M K v' e hf ht hR hL => ?_)
  obtain ⟨a1, a2, a3, a4, a5, a6, a7⟩ := hG
  have e11 : ∀ j, ¬ j = 0 → ¬ j = 6 → v'.1 11 0 j = v.1 11 0 j := fun j q1 q2 => (hf.1 11 0 j (fun q => by rcases q with q | q <;> omega)).1
  have no : ∀ k i, ¬ k = 40 → ¬ k = 11 → v'.1 k i = v.1 k i := fun k i q1 q2 => hf.I (fun j q => by rcases q with q | q <;> omega)
  refine h1 M K v' e (hf.re (fun k i j q => by rcases q with q | q <;> omega)) ht ⟨hR, hL, ?_, ?_, ?_, ?_, ?_⟩
  · rw [e11 9 (by omega) (by omega)]; exact a3
  · rw [no 44 0 (by decide) (by decide)]; exact a4
  · rw [e11 15 (by omega) (by omega)]; exact a5
  · rw [no 39 0 (by decide) (by decide)]; exact a6
  · rw [no 55 0 (by decide) (by decide)]; exact a7
/-- the state behind a night -/
noncomputable def gs_night (S : gs_T) : gs_T := (nt S.1, (gs_kept S).2)
theorem gs_night_ok (hS : gs_ok S) (hd : Hh S.1 2 < 5000) : gs_ok (gs_night S) := ⟨(nt_keeps hS.1 (by omega)).1, (gs_kept_ok hS).2⟩
theorem fN_W : ∀ k i j, fN 9 k i j → fW k i j := fun k i j q => by
  rcases q with q | q
  · exact Or.inl q
  · refine Or.inr (Or.inr ?_)
    have q2 : (k, i) ∈ fNl := q
    have : ∀ p ∈ fNl, p.1 ∈ [3, 4, 5, 6, 8, 16, 17, 18, 19, 20, 21, 22, 23, 24, 25, 26, 27, 28, 29, 30, 36, 37] := by decide
    exact this (k, i) q2
theorem k_night (hd : 44 ≤ d) (hG : gc_R v S) (hS : gs_ok S) (h1 : Hh S.1 2 < 5000 → ∀ v', fcl v v' → gc_R v' (gs_night S) → Q (Sum.inl (some (zI (nI (nt_f S.1))))) v') (h0 : ¬ Hh S.1 2 < 5000 → ∀ v', fcl v v' → gc_R v' (gs_no S 2) → Q (Sum.inr "java/lang/IllegalStateException") v') : gd_C g mX10_night d 1 6 [zR 10 0] v Q := by
  have hday := hS.1.2.2.1
  have e4 : v.1 2 9 4 = nI (Hh S.1 2) := hG.1.1 2 (by omega)
  refine c_X10_night hd (pk_lt (Hh S.1 2) 5000 (fun q => ?_) (fun q => ?_) e4 rfl (by omega) (by omega))
  · refine k_keepG (Nat.le_refl 4) hG hS (fun v1 f1 G1 => ?_)
    rw [gd_rV_at]
    refine k_pass (Nat.le_refl 43) G1.1 hS.1 (fun v2 f2 R2 p1 p2 p3 => ?_)
    rw [gd_rV_at, p1]
    have f2' := f2.W fN_W
    exact h1 q v2 (f1.tr (fW_cl f2')) (gc_house G1 (gs_kept_ok hS) f2' R2)
  · exact k_untimely hG hS (fun v1 f1 G1 => h0 (by omega) v1 f1 G1)
theorem fG_V : ∀ k i j, fG k i j → fV k i j := fun k i j q => by
  rcases q with q | q
  · refine Or.inl ?_
    simp only [List.mem_cons, List.not_mem_nil, or_false] at q ⊢
    omega
  · exact Or.inr ⟨q.1, by omega, by omega, by omega⟩
theorem rr_night (hd : 43 ≤ d) (hG : gr_R v S) (hS : gs_ok S) (h1 : Hh S.1 2 < 5000 → ∀ v', fre v v' → v'.1 11 0 0 = 0 → gr_R v' (gs_night S) → Q (Sum.inl (some (zI (nI (nt_f S.1))))) v') (h0 : ¬ Hh S.1 2 < 5000 → ∀ v', fre v v' → v'.1 11 0 0 = 1 → gr_R v' (gs_no S 2) → Q (Sum.inl (some (zI 0))) v') : gd_C g mX11_night d 0 0 [zR 11 0] v Q := by
  have hday := hS.1.2.2.1
  obtain ⟨b1, b2, b3⟩ := gr_begin hG
  refine c_X11_night hd ?_
  rintro _ rfl
  refine ⟨nu_in (n := 2) (by decide) (by decide), ?_⟩
  rw [show ((2 : Int32)).toNatClampNeg = 2 from by decide, b1.1.1 2 (by omega), nu_J 5000, pk_lLE (by omega) (by omega)]
  refine ⟨fun q => ?_, fun q => ?_⟩
  · refine r_fine0 (k := 2) (by decide) (by decide) b3 ?_
    obtain ⟨n1, n2, n3⟩ := gr_no (c := 1) (k := 2) (by decide) b1
    exact ⟨fun z => absurd rfl z, fun _ => h0 (by omega) _ (b2.tr n2) n3 n1⟩
  · refine r_fine1 (by decide) b3 ?_
    refine ⟨fun _ => ?_, fun z => absurd z (by decide)⟩
    refine r_keepsG b1 hS (fun v3 f3 t3 G3 => ?_)
    rw [gd_rV_at]
    refine r_goes (Nat.le_refl 42) G3.1 hS.1 G3.2.2.2.2.2.2 (fun v5 f5 R5 z5 p1 p2 p3 => ?_)
    rw [gd_rV_at, p1]
    have f5' := f5.wk fG_V
    have t5 : v5.1 11 0 0 = 0 := by
      rw [(f5.1 11 0 0 (fun q => by
        rcases q with q | q
        · exact absurd q (by decide)
        · omega)).1, t3]; exact b3
    exact h1 (by omega) v5 ((b2.tr f3).tr (fV_re f5')) t5 (gr_house G3 f5' R5 z5)
end CX
