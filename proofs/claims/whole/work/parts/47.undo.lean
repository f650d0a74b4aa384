/-! WHAT IS KEPT, AND UNDO, on both sides -/
def frD (X : Nat → Nat → Nat → Prop) (P : Nat → Prop) (v v' : gd_D) : Prop := (∀ k i j, ¬ X k i j → v'.1 k i j = v.1 k i j ∧ v'.2.1 k i j = v.2.1 k i j) ∧ v'.2.2.2 = v.2.2.2 ∧ ∀ x, ¬ P x → v'.2.2.1 x = v.2.2.1 x
theorem fr.D {X : Nat → Nat → Nat → Prop} {P : Nat → Prop} {v v' : gd_D} (h : fr X v v') : frD X P v v' := ⟨h.1, by rw [h.2], fun x _ => by rw [h.2]⟩
theorem frC.D {X : Nat → Nat → Nat → Prop} {P : Nat → Prop} {a : Nat} {v v' : gd_D} (h : frC X a v v') (ha : P a) : frD X P v v' := ⟨h.1, h.2.1, fun x hx => h.2.2 x (fun e => hx (by rw [e]; exact ha))⟩
theorem frD.tr {X : Nat → Nat → Nat → Prop} {P : Nat → Prop} {v v1 v2 : gd_D} (h : frD X P v v1) (h2 : frD X P v1 v2) : frD X P v v2 := ⟨fun k i j hx => ⟨(h2.1 k i j hx).1.trans (h.1 k i j hx).1, (h2.1 k i j hx).2.trans (h.1 k i j hx).2⟩, h2.2.1.trans h.2.1, fun x hx => (h2.2.2 x hx).trans (h.2.2 x hx)⟩
theorem frD.wk {X Y : Nat → Nat → Nat → Prop} {P R : Nat → Prop} {v v1 : gd_D} (h : frD X P v v1) (hY : ∀ k i j, X k i j → Y k i j) (hP : ∀ x, P x → R x) : frD Y R v v1 := ⟨fun k i j hx => h.1 k i j (fun q => hx (hY k i j q)), h.2.1, fun x hx => h.2.2 x (fun q => hx (hP x q))⟩
theorem frD.I {X : Nat → Nat → Nat → Prop} {P : Nat → Prop} {v v' : gd_D} (h : frD X P v v') {k i : Nat} (hx : ∀ j, ¬ X k i j) : v'.1 k i = v.1 k i := by funext j; exact (h.1 k i j (hx j)).1
theorem frD.J {X : Nat → Nat → Nat → Prop} {P : Nat → Prop} {v v' : gd_D} (h : frD X P v v') {k i : Nat} (hx : ∀ j, ¬ X k i j) : v'.2.1 k i = v.2.1 k i := by funext j; exact (h.1 k i j (hx j)).2
def hl_W (L : List hs_T) : Prop := L.length ≤ 8 ∧ ∀ (k : Nat) (K : hs_T), L[k]? = some K → hs_W K
def hl_add (L : List hs_T) (H : hs_T) : List hs_T := (if L.length = 8 then L.drop 1 else L) ++ [H]
theorem hl_add_len {L : List hs_T} {H : hs_T} (h : L.length ≤ 8) : (hl_add L H).length = if L.length = 8 then 8 else L.length + 1 := by
  unfold hl_add
  rw [List.length_append]
  by_cases e : L.length = 8
  · rw [if_pos e, if_pos e, List.length_drop, e]; rfl
  · rw [if_neg e, if_neg e]; rfl
theorem hl_add_at {L : List hs_T} {H K : hs_T} {k : Nat} (h : L.length ≤ 8) (hk : (hl_add L H)[k]? = some K) : (k + 1 = (hl_add L H).length ∧ K = H) ∨ (k + 1 < (hl_add L H).length ∧ L[k + (if L.length = 8 then 1 else 0)]? = some K) := by
  have hl := hl_add_len (H := H) h
  unfold hl_add at hk
  by_cases e : L.length = 8
  · rw [if_pos e] at hk hl ⊢
    have e7 : (L.drop 1).length = 7 := by rw [List.length_drop, e]
    by_cases q : k < 7
    · rw [List.getElem?_append_left (by omega), List.getElem?_drop, Nat.add_comm] at hk
      exact Or.inr ⟨by omega, hk⟩
    · rw [List.getElem?_append_right (by omega), e7] at hk
      have : k - 7 = 0 := by
        apply Classical.byContradiction
        intro z
        rw [List.getElem?_eq_none (by simp; omega)] at hk
        cases hk
      rw [this] at hk
      exact Or.inl ⟨by omega, (Option.some.inj hk).symm⟩
  · rw [if_neg e] at hk hl ⊢
    by_cases q : k < L.length
    · rw [List.getElem?_append_left q] at hk
      exact Or.inr ⟨by omega, hk⟩
    · rw [List.getElem?_append_right (by omega)] at hk
      have : k - L.length = 0 := by
        apply Classical.byContradiction
        intro z
        rw [List.getElem?_eq_none (by simp; omega)] at hk
        cases hk
      rw [this] at hk
      exact Or.inl ⟨by omega, (Option.some.inj hk).symm⟩
theorem hl_add_W {L : List hs_T} {H : hs_T} (h : hl_W L) (hW : hs_W H) : hl_W (hl_add L H) := by
  refine ⟨by rw [hl_add_len h.1]; split <;> have := h.1 <;> omega, fun k K hk => ?_⟩
  rcases hl_add_at h.1 hk with ⟨-, e⟩ | ⟨-, e⟩
  · rw [e]; exact hW
  · exact h.2 _ K e
/-- the class's history -/
def ch_R (v : gd_D) (L : List hs_T) : Prop := ∃ nx, nx < 8 ∧ v.1 1 0 1 = nI nx ∧ v.1 1 0 2 = nI L.length ∧ ∀ (k : Nat) (K : hs_T), L[k]? = some K → cr_R v (1 + (nx + 8 - L.length + k) % 8) K
/-- the reference's -/
def rh_R (v : gd_D) (L : List hs_T) : Prop := v.1 11 0 6 = nI L.length ∧ ∀ (k : Nat) (K : hs_T), L[k]? = some K → rm_R (fun j => v.2.1 43 0 (773 * k + j)) K
def fH (k i j : Nat) : Prop := (k = 1 ∧ i = 0) ∨ ∃ h, 1 ≤ h ∧ h ≤ 8 ∧ fh h k i j
def pH (x : Nat) : Prop := 1 ≤ x ∧ x ≤ 8
theorem rm_R.congr {f f' : Nat → Int64} {H : hs_T} (h : rm_R f H) (hW : hs_W H) (hf : ∀ j, j < 773 → f' j = f j) : rm_R f' H := by
  obtain ⟨a1, a2, a3, a4, a5, a6⟩ := h
  have h8 := hW.1
  have h24 := hW.2.1
  have hc := hW.2.2.2.2.2.2.2.2.2.1
  refine ⟨fun j hj => by rw [hf j (by omega)]; exact a1 j hj, by rw [hf 7 (by omega)]; exact a2, by rw [hf 8 (by omega)]; exact a3, fun i hi => ⟨by rw [hf _ (by omega)]; exact (a4 i hi).1, by rw [hf _ (by omega)]; exact (a4 i hi).2.1, fun j h1 h4 => by rw [hf _ (by omega)]; exact (a4 i hi).2.2 j h1 h4⟩, fun i hi j hj => by rw [hf _ (by omega)]; exact a5 i hi j hj, fun k hk => by rw [hf _ (by omega)]; exact a6 k hk⟩
theorem fhH {h k i j : Nat} (h1 : 1 ≤ h) (h8 : h ≤ 8) (q : fh h k i j) : fH k i j := Or.inr ⟨h, h1, h8, q⟩
section UC
variable {g : ab_E} {d : Nat} {v : gd_D} {Q : ab_O → gd_D → Prop} {H : hs_T} {L : List hs_T}
/-- a house stays where only the history's own numbers change -/
theorem cr_R.n1 {v' : gd_D} {h : Nat} {K : hs_T} (hR : cr_R v h K) (hW : hs_W K) (hf : fr (fy [(1, 0)]) v v') : cr_R v' h K := hR.far hW hf (fun _ _ => fy_n rfl) (fun _ _ => fy_n rfl) (fun _ _ => fy_n rfl) (fun _ _ => fy_n rfl)
theorem k_keep {n : Nat} (hd : 4 ≤ d) (hn : 9 ≤ n) (hR : cr_R v n H) (hW : hs_W H) (hL : ch_R v L) (hLW : hl_W L) (hQ : ∀ v', frD fH pH v v' → ch_R v' (hl_add L H) → Q (Sum.inl none) v') : gd_C g mX1_keep d 0 0 [zR 1 0, zR 2 n] v Q := by
  obtain ⟨nx, x1, x2, x3, x4⟩ := hL
  have hl8 := hLW.1
  refine c_X1_keep hd ⟨by rw [x2]; exact nu_in x1 (by omega), ?_⟩
  rw [x2, nI_clamp (by omega)]
  refine k_copyFrom (Nat.le_refl 3) (by omega) hR hW (fun v1 f1 R1 => ?_)
  rw [gd_rV_at]
  have e1 : v1.1 1 0 = v.1 1 0 := f1.I (fun _ => fh_n (by decide) (by decide) (by decide))
  refine ⟨by decide, ?_⟩
  rintro _ rfl
  rw [e1, x2, nu_1, show (8 : Int32) = nI 8 from rfl, pk_rem (by omega) (by omega) (by omega)]
  rw [show (gd_sI v1 1 0 1 (nI ((nx + 1) % 8))).1 1 0 2 = nI L.length from by rw [sI_ne (by omega), e1]; exact x3, nu_1]
  refine c_minI ?_
  rw [nu_min (by omega) (by omega)]
  rintro _ rfl
  have f3 : fr (fy [(1, 0)]) v1 (gd_sI (gd_sI v1 1 0 1 (nI ((nx + 1) % 8))) 1 0 2 (nI (min (L.length + 1) 8))) := (fr.sI (fy_y 0 rfl)).tr (fr.sI (fy_y 0 rfl))
  refine hQ _ (((f1.D (P := pH) ⟨by omega, by omega⟩).wk (fun k i j q => fhH (by omega) (by omega) q) (fun x q => q)).tr ((f3.wk (fun k i j q => Or.inl (Prod.mk.inj (List.mem_singleton.mp q)))).D)) ⟨(nx + 1) % 8, by omega, ?_, ?_, fun k K hk => ?_⟩
  · rw [sI_ne (by omega), sI_at]
  · rw [sI_at, hl_add_len hl8]
    by_cases e : L.length = 8
    · rw [if_pos e, e]; rfl
    · rw [if_neg e, Nat.min_eq_left (by omega)]
  · have hlen := hl_add_len (H := H) hl8
    rcases hl_add_at hl8 hk with ⟨q1, q2⟩ | ⟨q1, q2⟩
    · subst q2
      have : (1 + ((nx + 1) % 8 + 8 - (hl_add L K).length + k) % 8) = 1 + nx := by
        by_cases e : L.length = 8
        · rw [if_pos e] at hlen; omega
        · rw [if_neg e] at hlen; omega
      rw [this]
      exact R1.n1 hW f3
    · have hKW := hLW.2 _ K q2
      have hidx := (List.getElem?_eq_some_iff.mp q2).1
      have hold := x4 _ K q2
      have : (1 + ((nx + 1) % 8 + 8 - (hl_add L H).length + k) % 8) = 1 + (nx + 8 - L.length + (k + if L.length = 8 then 1 else 0)) % 8 ∧ ¬ (1 + nx) = 1 + (nx + 8 - L.length + (k + if L.length = 8 then 1 else 0)) % 8 := by
        by_cases e : L.length = 8
        · rw [if_pos e] at hlen ⊢; omega
        · rw [if_neg e] at hlen ⊢; omega
      rw [this.1]
      exact (hold.oth hKW this.2 f1).n1 hKW f3
theorem k_takeBack {n : Nat} (hd : 4 ≤ d) (hn : 9 ≤ n) (hL : ch_R v L) (hLW : hl_W L) (h0 : L = [] → Q (Sum.inl (some (zI (-1)))) v) (h1 : ∀ M K v', L = M ++ [K] → frD (fun k i j => (k = 1 ∧ i = 0) ∨ fh n k i j) (fun x => x = n) v v' → cr_R v' n K → ch_R v' M → Q (Sum.inl (some (zI (nI M.length)))) v') : gd_C g mX1_takeBack d 0 0 [zR 1 0, zR 2 n] v Q := by
  obtain ⟨nx, x1, x2, x3, x4⟩ := hL
  have hl8 := hLW.1
  refine c_X1_takeBack hd ?_
  unfold wp_X1_takeBack
  rw [x2, x3]
  refine ⟨fun hc => ⟨by decide, ?_⟩, fun hc => h0 ?_⟩
  · have hpos : 0 < L.length := by
      rcases Nat.eq_zero_or_pos L.length with z | z
      · rw [z] at hc; exact absurd rfl hc
      · exact z
    have hne : ¬ L = [] := fun e => by rw [e] at hpos; exact absurd hpos (by decide)
    have eL : L = L.dropLast ++ [L.getLast hne] := (List.dropLast_concat_getLast hne).symm
    have hM : L.dropLast.length = L.length - 1 := List.length_dropLast
    rintro _ rfl
    rw [show nI nx + 8 - 1 = nI (nx + 7) from by rw [show (8 : Int32) = nI 8 from rfl, nI_add, show nx + 8 = (nx + 7) + 1 from rfl, nu_q], show (8 : Int32) = nI 8 from rfl, pk_rem (by omega) (by omega) (by omega)]
    rintro _ rfl
    rw [show (gd_sI v 1 0 1 (nI ((nx + 7) % 8))).1 1 0 2 = nI L.length from by rw [sI_ne (by omega)]; exact x3, show nI L.length - 1 = nI (L.length - 1) from by rw [show L.length = (L.length - 1) + 1 from by omega, nu_q]; rfl]
    rw [sI_ne (by omega), sI_at, nI_clamp (by omega)]
    refine ⟨nu_in (by omega) (by omega), ?_⟩
    have f2 : fr (fy [(1, 0)]) v (gd_sI (gd_sI v 1 0 1 (nI ((nx + 7) % 8))) 1 0 2 (nI (L.length - 1))) := (fr.sI (fy_y 0 rfl)).tr (fr.sI (fy_y 0 rfl))
    have hlast : L[L.length - 1]? = some (L.getLast hne) := by rw [← List.getLast?_eq_getElem?, List.getLast?_eq_some_getLast hne]
    have hKW := hLW.2 _ _ hlast
    have Rl := x4 _ _ hlast
    rw [show 1 + (nx + 8 - L.length + (L.length - 1)) % 8 = 1 + (nx + 7) % 8 from by omega] at Rl
    refine k_copyFrom (Nat.le_refl 3) (by omega) (Rl.n1 hKW f2) hKW (fun v3 f3 R3 => ?_)
    rw [gd_rV_at]
    have e1 : v3.1 1 0 = (gd_sI (gd_sI v 1 0 1 (nI ((nx + 7) % 8))) 1 0 2 (nI (L.length - 1))).1 1 0 := f3.I (fun _ => fh_n (by decide) (by decide) (by decide))
    rw [e1, sI_at, ← hM]
    refine h1 L.dropLast (L.getLast hne) v3 eL (((f2.wk (fun k i j q => Or.inl (Prod.mk.inj (List.mem_singleton.mp q)))).D).tr ((f3.D (P := fun x => x = n) rfl).wk (fun k i j q => Or.inr q) (fun x q => q))) R3 ⟨(nx + 7) % 8, by omega, ?_, ?_, fun k K hk => ?_⟩
    · rw [e1, sI_ne (by omega), sI_at]
    · rw [e1, sI_at, hM]
    · have hkl := (List.getElem?_eq_some_iff.mp hk).1
      have hk2 : L[k]? = some K := by rw [eL, List.getElem?_append_left hkl]; exact hk
      have hW2 := hLW.2 _ K hk2
      have := x4 k K hk2
      rw [show 1 + ((nx + 7) % 8 + 8 - L.dropLast.length + k) % 8 = 1 + (nx + 8 - L.length + k) % 8 from by omega]
      exact (this.n1 hW2 f2).oth hW2 (by omega) f3
  · have : L.length = 0 := (nI_eq (b := 0) (by omega) (by omega)).mp hc
    exact List.length_eq_zero_iff.mp this
end UC
section UR
variable {g : ab_E} {d : Nat} {v : gd_D} {Q : ab_O → gd_D → Prop} {H : hs_T} {L : List hs_T}
def fK (k _ j : Nat) : Prop := k = 43 ∨ (k = 11 ∧ j = 6)
theorem nu_773 (a i : Nat) : (773 : Int32) * nI a + nI i = nI (773 * a + i) := by rw [nu_I 773, pk_mul, nI_add]
theorem r_keeps (hR : rm_R (v.2.1 40 0) H) (hW : hs_W H) (hL : rh_R v L) (hLW : hl_W L) (hQ : ∀ v', fr fK v v' → rh_R v' (hl_add L H) → Q (Sum.inl none) v') : gd_C g mX11_keeps d 0 0 [zR 11 0] v Q := by
  have hl8 := hLW.1
  refine c_X11_keeps (Nat.zero_le _) ?_
  -- the second loop, at place n of what is kept
  have put : ∀ (n : Nat) (z : gd_D), n < 8 → n + 1 = (hl_add L H).length → fr fK v z → z.1 11 0 6 = nI n → (∀ (k : Nat) (K : hs_T), k < n → (hl_add L H)[k]? = some K → rm_R (fun j => z.2.1 43 0 (773 * k + j)) K) → gd_G g mX11_keeps d 0 0 52 [(0, zR 11 0), (1, zI 0)] [] z Q := by
    intro n z hn8 hnl hfz hz6 hzk
    have key : ∀ k i (u : gd_D), i + k = 773 → fr fK v u → u.1 11 0 6 = nI n → (∀ j, u.2.1 43 0 j = if 773 * n ≤ j ∧ j < 773 * n + i then v.2.1 40 0 (j - 773 * n) else z.2.1 43 0 j) → gd_G g mX11_keeps d 0 0 52 [(0, zR 11 0), (1, zI (nI i))] [] u Q := by
      intro k
      induction k with
      | zero =>
        intro i u hi hfu hu6 hu43
        have e : i = 773 := by omega
        subst e
        refine w_X11_keeps_52 (Nat.zero_le _) (pk_le 773 773 (fun _ => ?_) (fun q => absurd q (by omega)))
        rintro _ rfl
        rw [hu6, nu_1]
        refine hQ _ (hfu.tr (fr.sI (Or.inr ⟨rfl, rfl⟩))) ⟨by rw [sI_at, hnl], fun k K hk => ?_⟩
        show rm_R (fun j => u.2.1 43 0 (773 * k + j)) K
        have hkl := (List.getElem?_eq_some_iff.mp hk).1
        rcases hl_add_at hl8 hk with ⟨q1, q2⟩ | ⟨q1, q2⟩
        · have : k = n := by omega
          subst this; subst q2
          refine hR.congr hW (fun j hj => ?_)
          show u.2.1 43 0 (773 * k + j) = _
          rw [hu43, if_pos ⟨by omega, by omega⟩, show 773 * k + j - 773 * k = j from by omega]
        · refine (hzk k K (by omega) hk).congr (hLW.2 _ K q2) (fun j hj => ?_)
          show u.2.1 43 0 (773 * k + j) = _
          have hkn : k < n := by omega
          have : 773 * k + 773 ≤ 773 * n := by omega
          rw [hu43, if_neg (by omega)]
      | succ k ih =>
        intro i u hi hfu hu6 hu43
        refine w_X11_keeps_52 (Nat.zero_le _) (pk_le 773 i (fun q => absurd q (by omega)) (fun _ => ⟨nu_in (by omega) (by omega), ?_⟩))
        rw [hu6, nu_773, nI_clamp (n := i) (by omega), nI_clamp (n := 773 * n + i) (by omega), nu_1]
        refine ⟨nu_in (by omega) (by omega), ?_⟩
        rintro _ rfl
        have e40 : u.2.1 40 0 = v.2.1 40 0 := hfu.J (fun _ q => by rcases q with q | q <;> omega)
        refine ih (i + 1) _ (by omega) (hfu.tr (fr.sJ (Or.inl rfl))) hu6 (fun j => ?_)
        by_cases e : j = 773 * n + i
        · subst e
          rw [sJ_at, if_pos ⟨by omega, by omega⟩, e40, show 773 * n + i - 773 * n = i from by omega]
        · rw [sJ_ne (by omega), hu43 j]
          by_cases q : 773 * n ≤ j ∧ j < 773 * n + i
          · rw [if_pos q, if_pos ⟨q.1, by omega⟩]
          · rw [if_neg q, if_neg (fun z => q ⟨z.1, by omega⟩)]
    exact key 773 0 z (by omega) hfz hz6 (fun j => by rw [if_neg (by omega)])
  have hlen := hl_add_len (H := H) hl8
  unfold wp_X11_keeps
  rw [hL.1]
  refine ⟨fun hc => ?_, fun hc => ?_⟩
  · have hne : ¬ L.length = 8 := fun e => hc (by rw [e]; rfl)
    rw [if_neg hne] at hlen
    refine put L.length v (by omega) hlen.symm fr.rf hL.1 (fun k K hk hk2 => hL.2 k K ?_)
    rcases hl_add_at hl8 hk2 with ⟨q1, q2⟩ | ⟨q1, q2⟩
    · omega
    · rw [if_neg hne] at q2; exact q2
  · have he : L.length = 8 := (nI_eq (b := 8) (by omega) (by omega)).mp hc
    rw [if_pos he] at hlen
    have key : ∀ k i (u : gd_D), i + k = 5411 → fr fK v u → u.1 11 0 6 = nI 8 → (∀ j, u.2.1 43 0 j = if j < i then v.2.1 43 0 (j + 773) else v.2.1 43 0 j) → gd_G g mX11_keeps d 0 0 11 [(0, zR 11 0), (1, zI (nI i))] [] u Q := by
      intro k
      induction k with
      | zero =>
        intro i u hi hfu hu6 hu43
        have e : i = 5411 := by omega
        subst e
        refine w_X11_keeps_11 (Nat.zero_le _) (pk_le 5411 5411 (fun _ => ?_) (fun q => absurd q (by omega)))
        rintro _ rfl
        rw [hu6, show (nI 8 : Int32) - 1 = nI 7 from by decide]
        refine put 7 _ (by omega) (by omega) (hfu.tr (fr.sI (Or.inr ⟨rfl, rfl⟩))) sI_at (fun k K hk hk2 => ?_)
        show rm_R (fun j => u.2.1 43 0 (773 * k + j)) K
        rcases hl_add_at hl8 hk2 with ⟨q1, q2⟩ | ⟨q1, q2⟩
        · omega
        · rw [if_pos he] at q2
          refine (hL.2 _ K q2).congr (hLW.2 _ K q2) (fun j hj => ?_)
          show u.2.1 43 0 (773 * k + j) = v.2.1 43 0 (773 * (k + 1) + j)
          rw [hu43, if_pos (by omega), show 773 * k + j + 773 = 773 * (k + 1) + j from by omega]
      | succ k ih =>
        intro i u hi hfu hu6 hu43
        refine w_X11_keeps_11 (Nat.zero_le _) (pk_le 5411 i (fun q => absurd q (by omega)) (fun _ => ?_))
        rw [show (773 : Int32) = nI 773 from rfl, nI_add, nI_clamp (by omega), nI_clamp (by omega), nu_1]
        refine ⟨nu_in (by omega) (by omega), nu_in (by omega) (by omega), ?_⟩
        rintro _ rfl
        refine ih (i + 1) _ (by omega) (hfu.tr (fr.sJ (Or.inl rfl))) hu6 (fun j => ?_)
        by_cases e : j = i
        · subst e
          rw [sJ_at, if_pos (by omega), hu43, if_neg (by omega)]
        · rw [sJ_ne (by omega), hu43 j]
          by_cases q : j < i
          · rw [if_pos q, if_pos (by omega)]
          · rw [if_neg q, if_neg (by omega)]
    refine key 5411 0 v (by omega) fr.rf (by rw [hL.1, he]) (fun j => by rw [if_neg (Nat.not_lt_zero j)])
theorem r_undo (hL : rh_R v L) (hLW : hl_W L) (h0 : L = [] → Q (Sum.inl (some (zI (-1)))) (gd_sI v 11 0 0 0)) (h1 : ∀ M K v', L = M ++ [K] → fr (fun k _ j => k = 40 ∨ (k = 11 ∧ (j = 0 ∨ j = 6))) v v' → v'.1 11 0 0 = 0 → rm_R (v'.2.1 40 0) K → rh_R v' M → Q (Sum.inl (some (zI (nI M.length)))) v') : gd_C g mX11_undo d 0 0 [zR 11 0] v Q := by
  have hl8 := hLW.1
  refine c_X11_undo (Nat.zero_le _) ?_
  rintro _ rfl
  have e6 : (gd_sI v 11 0 0 0).1 11 0 6 = nI L.length := by rw [sI_ne (by omega)]; exact hL.1
  rw [e6]
  refine ⟨fun hc => ?_, fun hc => h0 ?_⟩
  · have hpos : 0 < L.length := by
      rcases Nat.eq_zero_or_pos L.length with z | z
      · rw [z] at hc; exact absurd rfl hc
      · exact z
    have hne : ¬ L = [] := fun e => by rw [e] at hpos; exact absurd hpos (by decide)
    have eL : L = L.dropLast ++ [L.getLast hne] := (List.dropLast_concat_getLast hne).symm
    have hM : L.dropLast.length = L.length - 1 := List.length_dropLast
    have hlast : L[L.length - 1]? = some (L.getLast hne) := by rw [← List.getLast?_eq_getElem?, List.getLast?_eq_some_getLast hne]
    have hKW := hLW.2 _ _ hlast
    have Rl := hL.2 _ _ hlast
    rintro _ rfl
    rw [show nI L.length - 1 = nI (L.length - 1) from by rw [show L.length = (L.length - 1) + 1 from by omega, nu_q]; rfl]
    have key : ∀ k i (u : gd_D), i + k = 773 → fr (fun k _ j => k = 40 ∨ (k = 11 ∧ (j = 0 ∨ j = 6))) v u → u.1 11 0 0 = 0 → u.1 11 0 6 = nI (L.length - 1) → (∀ j, j < i → u.2.1 40 0 j = v.2.1 43 0 (773 * (L.length - 1) + j)) → gd_G g mX11_undo d 0 0 26 [(0, zR 11 0), (1, zI (nI i))] [] u Q := by
      intro k
      induction k with
      | zero =>
        intro i u hi hfu hu0 hu6 hu40
        have e : i = 773 := by omega
        subst e
        refine w_X11_undo_26 (Nat.zero_le _) (pk_le 773 773 (fun _ => ?_) (fun q => absurd q (by omega)))
        rw [hu6, ← hM]
        refine h1 _ _ u eL hfu hu0 (Rl.congr hKW (fun j hj => hu40 j hj)) ⟨by rw [hu6, hM], fun k K hk => ?_⟩
        have hkl := (List.getElem?_eq_some_iff.mp hk).1
        have hk2 : L[k]? = some K := by rw [eL, List.getElem?_append_left hkl]; exact hk
        have e43 : u.2.1 43 0 = v.2.1 43 0 := hfu.J (fun _ q => by rcases q with q | q <;> omega)
        rw [e43]; exact hL.2 k K hk2
      | succ k ih =>
        intro i u hi hfu hu0 hu6 hu40
        refine w_X11_undo_26 (Nat.zero_le _) (pk_le 773 i (fun q => absurd q (by omega)) (fun _ => ?_))
        rw [hu6, nu_773, nI_clamp (n := i) (by omega), nI_clamp (n := 773 * (L.length - 1) + i) (by omega), nu_1]
        refine ⟨nu_in (by omega) (by omega), ?_⟩
        rintro _ rfl
        refine ⟨nu_in (by omega) (by omega), ?_⟩
        rintro _ rfl
        have e43 : u.2.1 43 0 = v.2.1 43 0 := hfu.J (fun _ q => by rcases q with q | q <;> omega)
        refine ih (i + 1) _ (by omega) (hfu.tr (fr.sJ (Or.inl rfl))) hu0 hu6 (fun j hj => ?_)
        by_cases e : j = i
        · subst e; rw [sJ_at, e43]
        · rw [sJ_ne (by omega)]; exact hu40 j (by omega)
    refine key 773 0 _ (by omega) ((fr.sI (Or.inr ⟨rfl, Or.inl rfl⟩)).tr (fr.sI (Or.inr ⟨rfl, Or.inr rfl⟩))) ?_ sI_at (fun j hj => absurd hj (Nat.not_lt_zero j))
    rw [sI_ne (by omega), sI_at]
  · have : L.length = 0 := (nI_eq (b := 0) (by omega) (by omega)).mp hc
    exact List.length_eq_zero_iff.mp this
theorem r_putsAside (hR : rm_R (v.2.1 40 0) H) (hW : hs_W H) (hQ : ∀ v', fr (fx [42]) v v' → rm_R (v'.2.1 42 0) H → Q (Sum.inl none) v') : gd_C g mX11_putsAside d 0 0 [zR 11 0] v Q := by
  refine c_X11_putsAside (Nat.zero_le _) ?_
  have key : ∀ k i (u : gd_D), i + k = 773 → fr (fx [42]) v u → (∀ j, j < i → u.2.1 42 0 j = v.2.1 40 0 j) → gd_G g mX11_putsAside d 0 0 2 [(0, zR 11 0), (1, zI (nI i))] [] u Q := by
    intro k
    induction k with
    | zero =>
      intro i u hi hfu hu
      have e : i = 773 := by omega
      subst e
      exact w_X11_putsAside_2 (Nat.zero_le _) (pk_le 773 773 (fun _ => hQ u hfu (hR.congr hW hu)) (fun q => absurd q (by omega)))
    | succ k ih =>
      intro i u hi hfu hu
      refine w_X11_putsAside_2 (Nat.zero_le _) (pk_le 773 i (fun q => absurd q (by omega)) (fun _ => ⟨nu_in (by omega) (by omega), nu_in (by omega) (by omega), ?_⟩))
      rintro _ rfl
      rw [nI_clamp (by omega), nu_1]
      refine ih (i + 1) _ (by omega) (hfu.tr (fr.sJ (fx_y rfl))) (fun j hj => ?_)
      by_cases e : j = i
      · subst e; rw [sJ_at, hfu.J (fun _ => fx_n rfl)]
      · rw [sJ_ne (by omega)]; exact hu j (by omega)
  exact key 773 0 v (by omega) fr.rf (fun j hj => absurd hj (Nat.not_lt_zero j))
theorem r_takesBack (hR : rm_R (v.2.1 42 0) H) (hW : hs_W H) (hQ : ∀ v', fr (fx [40]) v v' → rm_R (v'.2.1 40 0) H → Q (Sum.inl none) v') : gd_C g mX11_takesBack d 0 0 [zR 11 0] v Q := by
  refine c_X11_takesBack (Nat.zero_le _) ?_
  have key : ∀ k i (u : gd_D), i + k = 773 → fr (fx [40]) v u → (∀ j, j < i → u.2.1 40 0 j = v.2.1 42 0 j) → gd_G g mX11_takesBack d 0 0 2 [(0, zR 11 0), (1, zI (nI i))] [] u Q := by
    intro k
    induction k with
    | zero =>
      intro i u hi hfu hu
      have e : i = 773 := by omega
      subst e
      exact w_X11_takesBack_2 (Nat.zero_le _) (pk_le 773 773 (fun _ => hQ u hfu (hR.congr hW hu)) (fun q => absurd q (by omega)))
    | succ k ih =>
      intro i u hi hfu hu
      refine w_X11_takesBack_2 (Nat.zero_le _) (pk_le 773 i (fun q => absurd q (by omega)) (fun _ => ⟨nu_in (by omega) (by omega), nu_in (by omega) (by omega), ?_⟩))
      rintro _ rfl
      rw [nI_clamp (by omega), nu_1]
      refine ih (i + 1) _ (by omega) (hfu.tr (fr.sJ (fx_y rfl))) (fun j hj => ?_)
      by_cases e : j = i
      · subst e; rw [sJ_at, hfu.J (fun _ => fx_n rfl)]
      · rw [sJ_ne (by omega)]; exact hu j (by omega)
  exact key 773 0 v (by omega) fr.rf (fun j hj => absurd hj (Nat.not_lt_zero j))
end UR
