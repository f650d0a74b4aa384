/-! THE WHOLE STATE, on both sides: now, what is kept, the tape, the fault's place, refusals -/
abbrev gs_T : Type := hs_T × List hs_T × (Nat × (Nat → Int32)) × Int32 × (Nat → Int32)
def gs_ok (S : gs_T) : Prop := hs_W S.1 ∧ hl_W S.2.1 ∧ S.2.2.1.1 ≤ 500
def gc_R (v : gd_D) (S : gs_T) : Prop := cr_R v 9 S.1 ∧ ch_R v S.2.1 ∧ v.1 7 0 2 = nI S.2.2.1.1 ∧ (∀ j, j < S.2.2.1.1 → v.1 31 0 j = S.2.2.1.2 j) ∧ v.1 10 0 10 = S.2.2.2.1 ∧ ∀ k, k < 3 → v.1 38 0 k = S.2.2.2.2 k
def gr_R (v : gd_D) (S : gs_T) : Prop := rm_R (v.2.1 40 0) S.1 ∧ rh_R v S.2.1 ∧ v.1 11 0 9 = nI S.2.2.1.1 ∧ (∀ j, j < S.2.2.1.1 → v.1 44 0 j = S.2.2.1.2 j) ∧ v.1 11 0 15 = S.2.2.2.1 ∧ (∀ k, k < 3 → v.1 39 0 k = S.2.2.2.2 k) ∧ ∀ z, z < 24 → v.1 55 0 z = 0
/-- the class's calls leave the reference and the law's arrays alone; the reference's leave the class alone -/
def fcl (v v' : gd_D) : Prop := (∀ k i j, (k = 11 ∨ 39 ≤ k) → v'.1 k i j = v.1 k i j ∧ v'.2.1 k i j = v.2.1 k i j) ∧ v'.2.2.2.2.2 = v.2.2.2.2.2 ∧ v'.2.2.2.2.1 0 = v.2.2.2.2.1 0
def fre (v v' : gd_D) : Prop := (∀ k i j, ¬ (k = 11 ∨ (39 ≤ k ∧ k ≤ 62)) → v'.1 k i j = v.1 k i j ∧ v'.2.1 k i j = v.2.1 k i j) ∧ v'.2.2 = v.2.2
theorem fcl.rf {v : gd_D} : fcl v v := ⟨fun _ _ _ _ => ⟨rfl, rfl⟩, rfl, rfl⟩
theorem fcl.tr {v v1 v2 : gd_D} (h : fcl v v1) (h2 : fcl v1 v2) : fcl v v2 := ⟨fun k i j q => ⟨(h2.1 k i j q).1.trans (h.1 k i j q).1, (h2.1 k i j q).2.trans (h.1 k i j q).2⟩, h2.2.1.trans h.2.1, h2.2.2.trans h.2.2⟩
theorem fr.cl {X : Nat → Nat → Nat → Prop} {v v' : gd_D} (h : fr X v v') (hX : ∀ k i j, X k i j → ¬ (k = 11 ∨ 39 ≤ k)) : fcl v v' := ⟨fun k i j q => h.1 k i j (fun x => hX k i j x q), by rw [h.2], by rw [h.2]⟩
theorem frD.cl {X : Nat → Nat → Nat → Prop} {P : Nat → Prop} {v v' : gd_D} (h : frD X P v v') (hX : ∀ k i j, X k i j → ¬ (k = 11 ∨ 39 ≤ k)) : fcl v v' := ⟨fun k i j q => h.1 k i j (fun x => hX k i j x q), by rw [h.2.1], by rw [h.2.1]⟩
theorem frC.cl {X : Nat → Nat → Nat → Prop} {a : Nat} {v v' : gd_D} (h : frC X a v v') (hX : ∀ k i j, X k i j → ¬ (k = 11 ∨ 39 ≤ k)) : fcl v v' := ⟨fun k i j q => h.1 k i j (fun x => hX k i j x q), by rw [h.2.1], by rw [h.2.1]⟩
theorem fr.re {X : Nat → Nat → Nat → Prop} {v v' : gd_D} (h : fr X v v') (hX : ∀ k i j, X k i j → k = 11 ∨ (39 ≤ k ∧ k ≤ 62)) : fre v v' := ⟨fun k i j q => h.1 k i j (fun x => q (hX k i j x)), h.2⟩
theorem fre.tr {v v1 v2 : gd_D} (h : fre v v1) (h2 : fre v1 v2) : fre v v2 := ⟨fun k i j q => ⟨(h2.1 k i j q).1.trans (h.1 k i j q).1, (h2.1 k i j q).2.trans (h.1 k i j q).2⟩, h2.2.trans h.2⟩
theorem gr_R.keep {v v' : gd_D} {S : gs_T} (h : gr_R v S) (hf : fcl v v') : gr_R v' S := by
  obtain ⟨a1, a2, a3, a4, a5, a6, a7⟩ := h
  have eI : ∀ k i, (k = 11 ∨ 39 ≤ k) → v'.1 k i = v.1 k i := fun k i q => by funext j; exact (hf.1 k i j q).1
  have eJ : ∀ k i, (k = 11 ∨ 39 ≤ k) → v'.2.1 k i = v.2.1 k i := fun k i q => by funext j; exact (hf.1 k i j q).2
  refine ⟨by rw [eJ 40 0 (by omega)]; exact a1, ⟨by rw [eI 11 0 (by omega)]; exact a2.1, by rw [eJ 43 0 (by omega)]; exact a2.2⟩, by rw [eI 11 0 (by omega)]; exact a3, by rw [eI 44 0 (by omega)]; exact a4, by rw [eI 11 0 (by omega)]; exact a5, by rw [eI 39 0 (by omega)]; exact a6, by rw [eI 55 0 (by omega)]; exact a7⟩
theorem cr_R.re {v v' : gd_D} {h : Nat} {H : hs_T} (hR : cr_R v h H) (hf : fre v v') : cr_R v' h H := by
  have eI : ∀ k i, ¬ (k = 11 ∨ (39 ≤ k ∧ k ≤ 62)) → v'.1 k i = v.1 k i := fun k i q => by funext j; exact (hf.1 k i j q).1
  have eJ : ∀ k i, ¬ (k = 11 ∨ (39 ≤ k ∧ k ≤ 62)) → v'.2.1 k i = v.2.1 k i := fun k i q => by funext j; exact (hf.1 k i j q).2
  obtain ⟨a1, a2, a3, a4, a5, a6, a7⟩ := hR
  refine ⟨by rw [eI 2 h (by omega)]; exact a1, by rw [eJ 2 h (by omega)]; exact a2, fun i hi => ?_, fun i hi => ?_, ?_, ?_, ?_⟩
  · rw [eI 0 _ (by omega), eJ 0 _ (by omega)]; exact a3 i hi
  · rw [eI 9 _ (by omega)]; exact a4 i hi
  · rw [hf.2]; exact a5
  · rw [hf.2]; exact a6
  · rw [hf.2, eI 15 _ (by omega)]; exact a7
theorem gc_R.keep {v v' : gd_D} {S : gs_T} (h : gc_R v S) (hf : fre v v') : gc_R v' S := by
  have eI : ∀ k i, ¬ (k = 11 ∨ (39 ≤ k ∧ k ≤ 62)) → v'.1 k i = v.1 k i := fun k i q => by funext j; exact (hf.1 k i j q).1
  obtain ⟨a1, ⟨nx, b1, b2, b3, b4⟩, a3, a4, a5, a6⟩ := h
  refine ⟨a1.re hf, ⟨nx, b1, by rw [eI 1 0 (by omega)]; exact b2, by rw [eI 1 0 (by omega)]; exact b3, fun k K hk => (b4 k K hk).re hf⟩, by rw [eI 7 0 (by omega)]; exact a3, by rw [eI 31 0 (by omega)]; exact a4, by rw [eI 10 0 (by omega)]; exact a5, by rw [eI 38 0 (by omega)]; exact a6⟩
/-- a refusal of kind k -/
def gs_no (S : gs_T) (k : Nat) : gs_T := (S.1, S.2.1, S.2.2.1, S.2.2.2.1, fun j => if j = k then S.2.2.2.2 k + 1 else S.2.2.2.2 j)
theorem gc_no {v : gd_D} {S : gs_T} {k : Nat} (hk : k < 3) (h : gc_R v S) (hS : gs_ok S) : gc_R (gd_sI v 38 0 k (v.1 38 0 k + 1)) (gs_no S k) := by
  obtain ⟨a1, ⟨nx, b1, b2, b3, b4⟩, a3, a4, a5, a6⟩ := h
  have hf : fr (fy [(38, 0)]) v (gd_sI v 38 0 k (v.1 38 0 k + 1)) := fr.sI (fy_y 0 rfl)
  have far : ∀ {n : Nat} {K : hs_T}, cr_R v n K → hs_W K → cr_R (gd_sI v 38 0 k (v.1 38 0 k + 1)) n K := fun hR hW => hR.far hW hf (fun _ _ => fy_n rfl) (fun _ _ => fy_n rfl) (fun _ _ => fy_n rfl) (fun _ _ => fy_n rfl)
  refine ⟨far a1 hS.1, ⟨nx, b1, by rw [sI_ne (by omega)]; exact b2, by rw [sI_ne (by omega)]; exact b3, fun j K hj => far (b4 j K hj) (hS.2.1.2 j K hj)⟩, by rw [sI_ne (by omega)]; exact a3, fun j hj => by rw [sI_ne (by omega)]; exact a4 j hj, by rw [sI_ne (by omega)]; exact a5, fun j hj => ?_⟩
  show _ = if j = k then S.2.2.2.2 k + 1 else S.2.2.2.2 j
  by_cases e : j = k
  · subst e; rw [sI_at, if_pos rfl, a6 j hj]
  · rw [sI_ne (by omega), if_neg e]; exact a6 j hj
section ND
variable {g : ab_E} {d : Nat} {v : gd_D} {Q : ab_O → gd_D → Prop} {S : gs_T}
/-- who is no dealer is refused -/
theorem k_needDealer {x : Int32} (hd : 9 ≤ d) (hG : gc_R v S) (hS : gs_ok S) (h1 : ∀ i, i < Hh S.1 0 → x = nI i → Q (Sum.inl none) v) (h0 : (∀ i, i < Hh S.1 0 → ¬ x = nI i) → ∀ v', fcl v v' → gc_R v' (gs_no S 0) → Q (Sum.inr "java/util/NoSuchElementException") v') : gd_C g mX10_needDealer d 1 6 [zR 10 0, zI x] v Q := by
  have h8 := hS.1.1
  have no : (∀ i, i < Hh S.1 0 → ¬ x = nI i) → wp_X10_needDealer_15 g d v Q := by
    intro hno
    refine c_X10_refuseMissing (by decide) ⟨nu_in (n := 0) (by decide) (by decide), nu_in (n := 0) (by decide) (by decide), ?_⟩
    rintro _ rfl
    exact h0 hno _ ((fr.sI (X := fy [(38, 0)]) (fy_y 0 rfl)).cl (fun k i j q => by rw [(Prod.mk.inj (List.mem_singleton.mp q)).1]; decide)) (gc_no (by decide) hG hS)
  refine c_X10_needDealer hd ⟨fun hc => no (fun i hi e => ?_), fun hc => ⟨fun hc2 => ?_, fun hc2 => no (fun i hi e => ?_)⟩⟩
  · rw [e] at hc; exact nI_pos (by omega) hc
  · obtain ⟨j, hj, e⟩ := nI_of hc
    have e2 : v.1 2 9 2 = nI (Hh S.1 0) := hG.1.1 0 (by omega)
    rw [e2, e, nI_ltI hj (by omega)] at hc2
    exact h1 j hc2 e
  · have e2 : v.1 2 9 2 = nI (Hh S.1 0) := hG.1.1 0 (by omega)
    rw [e2, e] at hc2
    exact hc2 (nI_lt hi (by omega))
theorem k_needSale {x : Int32} (hd : 9 ≤ d) (hG : gc_R v S) (hS : gs_ok S) (h1 : ∀ i, i < Hh S.1 1 → x = nI i → Q (Sum.inl none) v) (h0 : (∀ i, i < Hh S.1 1 → ¬ x = nI i) → ∀ v', fcl v v' → gc_R v' (gs_no S 0) → Q (Sum.inr "java/util/NoSuchElementException") v') : gd_C g mX10_needSale d 1 6 [zR 10 0, zI x] v Q := by
  have h24 := hS.1.2.1
  have no : (∀ i, i < Hh S.1 1 → ¬ x = nI i) → wp_X10_needSale_15 g d v Q := by
    intro hno
    refine c_X10_refuseMissing (by decide) ⟨nu_in (n := 0) (by decide) (by decide), nu_in (n := 0) (by decide) (by decide), ?_⟩
    rintro _ rfl
    exact h0 hno _ ((fr.sI (X := fy [(38, 0)]) (fy_y 0 rfl)).cl (fun k i j q => by rw [(Prod.mk.inj (List.mem_singleton.mp q)).1]; decide)) (gc_no (by decide) hG hS)
  refine c_X10_needSale hd ⟨fun hc => no (fun i hi e => ?_), fun hc => ⟨fun hc2 => ?_, fun hc2 => no (fun i hi e => ?_)⟩⟩
  · rw [e] at hc; exact nI_pos (by omega) hc
  · obtain ⟨j, hj, e⟩ := nI_of hc
    have e2 : v.1 2 9 3 = nI (Hh S.1 1) := hG.1.1 1 (by omega)
    rw [e2, e, nI_ltI hj (by omega)] at hc2
    exact h1 j hc2 e
  · have e2 : v.1 2 9 3 = nI (Hh S.1 1) := hG.1.1 1 (by omega)
    rw [e2, e] at hc2
    exact hc2 (nI_lt hi (by omega))
theorem k_needWithin {x lo hi : Int32} (hd : 9 ≤ d) (hG : gc_R v S) (hS : gs_ok S) (h1 : lo ≤ x → x ≤ hi → Q (Sum.inl none) v) (h0 : ¬ (lo ≤ x ∧ x ≤ hi) → ∀ v', fcl v v' → gc_R v' (gs_no S 1) → Q (Sum.inr "java/lang/IllegalArgumentException") v') : gd_C g mX10_needWithin d 1 6 [zR 10 0, zI x, zI lo, zI hi] v Q := by
  have no : ¬ (lo ≤ x ∧ x ≤ hi) → wp_X10_needWithin_10 g d v Q := by
    intro hno
    refine c_X10_refuseUnfit (by decide) ⟨nu_in (n := 1) (by decide) (by decide), nu_in (n := 1) (by decide) (by decide), ?_⟩
    rintro _ rfl
    exact h0 hno _ ((fr.sI (X := fy [(38, 0)]) (fy_y 0 rfl)).cl (fun k i j q => by rw [(Prod.mk.inj (List.mem_singleton.mp q)).1]; decide)) (gc_no (by decide) hG hS)
  refine c_X10_needWithin hd ⟨fun hc => no (fun q => ?_), fun hc => ⟨fun hc2 => h1 ?_ hc2, fun hc2 => no (fun q => hc2 q.2)⟩⟩
  · have := q.1
    rw [Int32.le_iff_toInt_le] at this
    rw [Int32.lt_iff_toInt_lt] at hc
    omega
  · rw [Int32.le_iff_toInt_le]
    rw [Int32.lt_iff_toInt_lt] at hc
    omega
end ND
