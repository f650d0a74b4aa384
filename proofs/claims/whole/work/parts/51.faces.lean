/-! THE STATE IS KEPT AND CHANGED -/
def gs_kept (S : gs_T) : gs_T := (S.1, hl_add S.2.1 S.1, S.2.2)
theorem gs_kept_ok {S : gs_T} (h : gs_ok S) : gs_ok (gs_kept S) := ⟨h.1, hl_add_W h.2.1 h.1, h.2.2⟩
/-- what acts and questions may change of the class: its two houses 9 and 10, and its tools -/
def fW (k i j : Nat) : Prop := fh 9 k i j ∨ fh 10 k i j ∨ k ∈ [3, 4, 5, 6, 8, 16, 17, 18, 19, 20, 21, 22, 23, 24, 25, 26, 27, 28, 29, 30, 36, 37]
def pW (x : Nat) : Prop := x = 9 ∨ x = 10
theorem fW_cl {v v' : gd_D} (h : frD fW pW v v') : fcl v v' := h.cl (fun k i j q => by
  rcases q with q | q | q
  · rcases q with q | q | q <;> omega
  · rcases q with q | q | q <;> omega
  · simp only [List.mem_cons, List.not_mem_nil, or_false] at q
    omega)
theorem fW_no {k i j : Nat} (h1 : decide (k ∈ [0, 2, 9, 3, 4, 5, 6, 8, 16, 17, 18, 19, 20, 21, 22, 23, 24, 25, 26, 27, 28, 29, 30, 36, 37]) = false) : ¬ fW k i j := fun q => by
  have h2 := of_decide_eq_false h1
  apply h2
  rcases q with q | q | q
  · rcases q with q | q | q <;> (rw [q.1]; decide)
  · rcases q with q | q | q <;> (rw [q.1]; decide)
  · simp only [List.mem_cons, List.not_mem_nil, or_false] at q ⊢
    omega
theorem gc_house {v v' : gd_D} {S : gs_T} {H' : hs_T} (hG : gc_R v S) (hS : gs_ok S) (hf : frD fW pW v v') (hR : cr_R v' 9 H') : gc_R v' (H', S.2) := by
  obtain ⟨a1, ⟨nx, b1, b2, b3, b4⟩, a3, a4, a5, a6⟩ := hG
  have eI : ∀ k i, decide (k ∈ [0, 2, 9, 3, 4, 5, 6, 8, 16, 17, 18, 19, 20, 21, 22, 23, 24, 25, 26, 27, 28, 29, 30, 36, 37]) = false → v'.1 k i = v.1 k i := fun k i q => hf.I (fun _ => fW_no q)
  have oth : ∀ {n : Nat} {K : hs_T}, cr_R v n K → hs_W K → n ≤ 8 → cr_R v' n K := by
    intro n K hK hKW hn
    have no2 : ∀ j, ¬ fW 2 n j := fun j q => by
      rcases q with q | q | q
      · rcases q with q | q | q <;> omega
      · rcases q with q | q | q <;> omega
      · exact absurd q (by decide)
    have no0 : ∀ i, i < 8 → ∀ j, ¬ fW 0 (8 * n + i) j := fun i hi j q => by
      rcases q with q | q | q
      · rcases q with q | q | q <;> omega
      · rcases q with q | q | q <;> omega
      · exact absurd q (by decide)
    have no9 : ∀ i, i < 24 → ∀ j, ¬ fW 9 (24 * n + i) j := fun i hi j q => by
      rcases q with q | q | q
      · rcases q with q | q | q <;> omega
      · rcases q with q | q | q <;> omega
      · exact absurd q (by decide)
    exact hK.keptC hKW.1 hKW.2.1 ⟨hf.I no2, hf.J no2⟩ (fun i hi => ⟨hf.I (no0 i hi), hf.J (no0 i hi)⟩) (fun i hi => hf.I (no9 i hi)) hf.2.1 (hf.2.2 n (fun q => by rcases q with q | q <;> omega)) (hf.I (fun _ => fW_no rfl))
  refine ⟨hR, ⟨nx, b1, by rw [eI 1 0 rfl]; exact b2, by rw [eI 1 0 rfl]; exact b3, fun k K hk => oth (b4 k K hk) (hS.2.1.2 k K hk) (by omega)⟩, by rw [eI 7 0 rfl]; exact a3, by rw [eI 31 0 rfl]; exact a4, by rw [eI 10 0 rfl]; exact a5, by rw [eI 38 0 rfl]; exact a6⟩
/-- the same of the reference: its row and its tools -/
def fV (k _ j : Nat) : Prop := k ∈ [40, 42, 46, 47, 48, 49, 50, 51, 52, 53, 54, 55, 56, 57, 58, 59, 60, 61, 62] ∨ (k = 11 ∧ ¬ j = 6 ∧ ¬ j = 9 ∧ ¬ j = 15)
theorem fV_re {v v' : gd_D} (h : fr fV v v') : fre v v' := h.re (fun k i j q => by
  rcases q with q | q
  · simp only [List.mem_cons, List.not_mem_nil, or_false] at q
    omega
  · exact Or.inl q.1)
theorem fV_no {k i j : Nat} (h1 : decide (k ∈ [11, 40, 42, 46, 47, 48, 49, 50, 51, 52, 53, 54, 55, 56, 57, 58, 59, 60, 61, 62]) = false) : ¬ fV k i j := fun q => by
  have h2 := of_decide_eq_false h1
  apply h2
  rcases q with q | q
  · exact List.mem_cons_of_mem 11 q
  · rw [q.1]; decide
theorem gr_house {v v' : gd_D} {S : gs_T} {H' : hs_T} (hG : gr_R v S) (hf : fr fV v v') (hR : rm_R (v'.2.1 40 0) H') (hz : ∀ z, z < 24 → v'.1 55 0 z = 0) : gr_R v' (H', S.2) := by
  obtain ⟨a1, a2, a3, a4, a5, a6, a7⟩ := hG
  have e11 : ∀ j, (j = 6 ∨ j = 9 ∨ j = 15) → v'.1 11 0 j = v.1 11 0 j := fun j hj => (hf.1 11 0 j (fun q => by
    rcases q with q | q
    · exact absurd q (by decide)
    · omega)).1
  refine ⟨hR, ⟨by rw [e11 6 (by omega)]; exact a2.1, by rw [hf.J (fun _ => fV_no rfl)]; exact a2.2⟩, by rw [e11 9 (by omega)]; exact a3, by rw [hf.I (fun _ => fV_no rfl)]; exact a4, by rw [e11 15 (by omega)]; exact a5, by rw [hf.I (fun _ => fV_no rfl)]; exact a6, hz⟩
section FG
variable {g : ab_E} {d : Nat} {v : gd_D} {Q : ab_O → gd_D → Prop} {S : gs_T}
theorem fH_cl {v' : gd_D} (h : frD fH pH v v') : fcl v v' := h.cl (fun k i j q => by
  rcases q with q | ⟨n, _, _, q⟩
  · omega
  · rcases q with q | q | q <;> omega)
theorem k_keepG (hd : 4 ≤ d) (hG : gc_R v S) (hS : gs_ok S) (hQ : ∀ v', fcl v v' → gc_R v' (gs_kept S) → Q (Sum.inl none) v') : gd_C g mX1_keep d 0 0 [zR 1 0, zR 2 9] v Q := by
  obtain ⟨a1, a2, a3, a4, a5, a6⟩ := hG
  refine k_keep hd (by omega) a1 hS.1 a2 hS.2.1 (fun v' hf hL => hQ v' (fH_cl hf) ?_)
  have no : ∀ k i, ¬ k = 1 → ¬ k = 2 → ¬ k = 0 → ¬ k = 9 → ∀ j, ¬ fH k i j := fun k i h1 h2 h0 h9 j q => by
    rcases q with q | ⟨n, _, _, q⟩
    · omega
    · rcases q with q | q | q <;> omega
  have no2 : ∀ j, ¬ fH 2 9 j := fun j q => by
    rcases q with q | ⟨n, _, _, q⟩
    · omega
    · rcases q with q | q | q <;> omega
  have no0 : ∀ i, i < 8 → ∀ j, ¬ fH 0 (8 * 9 + i) j := fun i hi j q => by
    rcases q with q | ⟨n, _, _, q⟩
    · omega
    · rcases q with q | q | q <;> omega
  have no9 : ∀ i, i < 24 → ∀ j, ¬ fH 9 (24 * 9 + i) j := fun i hi j q => by
    rcases q with q | ⟨n, _, _, q⟩
    · omega
    · rcases q with q | q | q <;> omega
  refine ⟨a1.keptC hS.1.1 hS.1.2.1 ⟨hf.I no2, hf.J no2⟩ (fun i hi => ⟨hf.I (no0 i hi), hf.J (no0 i hi)⟩) (fun i hi => hf.I (no9 i hi)) hf.2.1 (hf.2.2 9 (fun q => by have := q.2; omega)) (hf.I (no 15 _ (by decide) (by decide) (by decide) (by decide))), hL, ?_, ?_, ?_, ?_⟩
  · rw [hf.I (no 7 0 (by decide) (by decide) (by decide) (by decide))]; exact a3
  · rw [hf.I (no 31 0 (by decide) (by decide) (by decide) (by decide))]; exact a4
  · rw [hf.I (no 10 0 (by decide) (by decide) (by decide) (by decide))]; exact a5
  · rw [hf.I (no 38 0 (by decide) (by decide) (by decide) (by decide))]; exact a6
theorem r_keepsG (hG : gr_R v S) (hS : gs_ok S) (hQ : ∀ v', fre v v' → v'.1 11 0 0 = v.1 11 0 0 → gr_R v' (gs_kept S) → Q (Sum.inl none) v') : gd_C g mX11_keeps d 0 0 [zR 11 0] v Q := by
  obtain ⟨a1, a2, a3, a4, a5, a6, a7⟩ := hG
  refine r_keeps a1 hS.1 a2 hS.2.1 (fun v' hf hL => ?_)
  have no : ∀ k i, ¬ k = 43 → ¬ k = 11 → ∀ j, ¬ fK k i j := fun k i h1 h2 j q => by rcases q with q | q <;> omega
  have e11 : ∀ j, ¬ j = 6 → v'.1 11 0 j = v.1 11 0 j := fun j hj => (hf.1 11 0 j (fun q => by rcases q with q | q <;> omega)).1
  refine hQ v' (hf.re (fun k i j q => by rcases q with q | q <;> omega)) (e11 0 (by omega)) ⟨?_, hL, ?_, ?_, ?_, ?_, ?_⟩
  · rw [hf.J (no 40 0 (by decide) (by decide))]; exact a1
  · rw [e11 9 (by omega)]; exact a3
  · rw [hf.I (no 44 0 (by decide) (by decide))]; exact a4
  · rw [e11 15 (by omega)]; exact a5
  · rw [hf.I (no 39 0 (by decide) (by decide))]; exact a6
  · rw [hf.I (no 55 0 (by decide) (by decide))]; exact a7
/-- thrown := 0 at a call's begin -/
theorem gr_begin (hG : gr_R v S) : gr_R (gd_sI v 11 0 0 0) S ∧ fre v (gd_sI v 11 0 0 0) ∧ (gd_sI v 11 0 0 0).1 11 0 0 = 0 := by
  have hf : fr fV v (gd_sI v 11 0 0 0) := fr.sI (Or.inr ⟨rfl, by decide, by decide, by decide⟩)
  refine ⟨gr_house (H' := S.1) hG hf hG.1 (fun z hz => by rw [sI_ne (by omega)]; exact hG.2.2.2.2.2.2 z hz), fV_re hf, sI_at⟩
/-- a refusal is told -/
theorem gr_no {c : Int32} {k : Nat} (hk : k < 3) (hG : gr_R v S) : gr_R (rm_no v c k) (gs_no S k) ∧ fre v (rm_no v c k) ∧ (rm_no v c k).1 11 0 0 = c := by
  obtain ⟨a1, a2, a3, a4, a5, a6, a7⟩ := hG
  unfold rm_no
  refine ⟨⟨a1, ⟨?_, a2.2⟩, ?_, fun j hj => ?_, ?_, fun j hj => ?_, fun z hz => ?_⟩, ?_, ?_⟩
  · rw [sI_ne (by omega), sI_ne (by omega)]; exact a2.1
  · rw [sI_ne (by omega), sI_ne (by omega)]; exact a3
  · rw [sI_ne (by omega), sI_ne (by omega)]; exact a4 j hj
  · rw [sI_ne (by omega), sI_ne (by omega)]; exact a5
  · show _ = if j = k then S.2.2.2.2 k + 1 else S.2.2.2.2 j
    by_cases e : j = k
    · subst e; rw [sI_at, if_pos rfl, a6 j hj]
    · rw [sI_ne (by omega), sI_ne (by omega), if_neg e]; exact a6 j hj
  · rw [sI_ne (by omega), sI_ne (by omega)]; exact a7 z hz
  · exact ((fr.sI (X := fun k _ _ => k = 11 ∨ k = 39) (Or.inl rfl)).tr (fr.sI (Or.inr rfl))).re (fun k i j q => by rcases q with q | q <;> omega)
  · rw [sI_ne (by omega), sI_at]
end FG
