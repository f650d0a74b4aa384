/-! TEXT, the reference's side: lines -/
def rd (f : Nat → Int64) (u : uT) : Prop := f 0 = lN (Hh u.1 0) ∧ f 1 = lN (Hh u.1 1) ∧ f 2 = 0 ∧ (∀ j, 3 ≤ j → j ≤ 6 → f j = if u.2 j then lN (Hh u.1 j) else -1) ∧ f 8 = 0 ∧ (∀ i, i < 8 → ∀ j, j < 6 → f (9 + 6 * i + j) = if i < Hh u.1 0 ∧ j = 0 then lN (Hd u.1 i 0) else 0) ∧ ∀ i, i < 24 → ∀ j, j < 9 → f (57 + 9 * i + j) = if i < Hh u.1 1 then lN (Hs u.1 i j) else 0
def rU (v : gd_D) (T : Nat → Int32) (n : Nat) (x : rL) : Prop := match x with
  | Sum.inl e => rP v T n (Sum.inl e)
  | Sum.inr q => rP v T n (Sum.inr q.1) ∧ rd (v.2.1 41 0) q.2 ∧ rC v (Hc q.2.1)
def fM (k i j : Nat) : Prop := fD k i j ∨ (k = 11 ∧ i = 0 ∧ j = 16) ∨ (k = 41 ∧ i = 0)
theorem fD_M : ∀ k i j, fD k i j → fM k i j := fun _ _ _ q => Or.inl q
theorem fD1_M : ∀ k i j, fD1 k i j → fM k i j := fun k i j q => Or.inl (fD1_D k i j q)
theorem fJ_M : ∀ k i j, fJ k i j → fM k i j := fun k i j q => by
  rcases q with q | q | q
  · exact Or.inl q
  · exact Or.inr (Or.inl q)
  · exact Or.inr (Or.inr ⟨q.1, q.2.1⟩)
section RDL
variable {f f' : Nat → Int64} {u : uT}
theorem rd_addd {s : Nat} (h : rd f u) (h8 : Hh u.1 0 < 8) (h0 : f' 0 = lN (Hh u.1 0 + 1)) (hs : f' (9 + 6 * Hh u.1 0 + 0) = lN s) (hX : ∀ q, ¬ q = 0 → ¬ q = 9 + 6 * Hh u.1 0 + 0 → f' q = f q) : rd f' (h_addd u.1 s, u.2) := by
  obtain ⟨a1, a2, a3, a4, a5, a6, a7⟩ := h
  have e : ∀ j, ¬ j = 0 → Hh (h_addd u.1 s) j = Hh u.1 j := fun j hj => if_neg hj
  refine ⟨h0, ?_, by rw [hX 2 (by omega) (by omega)]; exact a3, fun j j3 j6 => ?_, by rw [hX 8 (by omega) (by omega)]; exact a5, fun i hi j hj => ?_, fun i hi j hj => ?_⟩
  · show f' 1 = lN (Hh (h_addd u.1 s) 1)
    rw [e 1 (by omega), hX 1 (by omega) (by omega)]; exact a2
  · show f' j = if u.2 j then lN (Hh (h_addd u.1 s) j) else -1
    rw [e j (by omega), hX j (by omega) (by omega)]; exact a4 j j3 j6
  · show f' _ = if i < Hh u.1 0 + 1 ∧ j = 0 then lN (if i = Hh u.1 0 then (if 0 = 0 then s else 0) else u.1.2.1 i 0) else 0
    by_cases q : i = Hh u.1 0 ∧ j = 0
    · rw [q.1, q.2, hs, if_pos ⟨by omega, rfl⟩, if_pos rfl, if_pos rfl]
    · rw [hX _ (by omega) (by omega), a6 i hi j hj]
      by_cases q2 : i < Hh u.1 0 ∧ j = 0
      · rw [if_pos q2, if_pos ⟨by omega, q2.2⟩, if_neg (by omega)]
      · rw [if_neg q2, if_neg (by omega)]
  · show f' _ = if i < Hh (h_addd u.1 s) 1 then lN (Hs u.1 i j) else 0
    rw [e 1 (by omega), hX _ (by omega) (by omega)]; exact a7 i hi j hj
theorem rd_adds {a b un pr t : Nat} (h : rd f u) (h24 : Hh u.1 1 < 24) (h8 : Hh u.1 0 ≤ 8) (h1 : f' 1 = lN (Hh u.1 1 + 1)) (hs : ∀ j, j < 9 → f' (57 + 9 * Hh u.1 1 + j) = lN (sf a b un pr t j)) (hX : ∀ q, ¬ q = 1 → ¬ (57 + 9 * Hh u.1 1 ≤ q ∧ q < 57 + 9 * Hh u.1 1 + 9) → f' q = f q) : rd f' (h_adds u.1 a b un pr t, u.2) := by
  obtain ⟨a1, a2, a3, a4, a5, a6, a7⟩ := h
  have e : ∀ j, ¬ j = 1 → Hh (h_adds u.1 a b un pr t) j = Hh u.1 j := fun j hj => if_neg hj
  refine ⟨?_, h1, by rw [hX 2 (by omega) (by omega)]; exact a3, fun j j3 j6 => ?_, by rw [hX 8 (by omega) (by omega)]; exact a5, fun i hi j hj => ?_, fun i hi j hj => ?_⟩
  · show f' 0 = lN (Hh (h_adds u.1 a b un pr t) 0)
    rw [e 0 (by omega), hX 0 (by omega) (by omega)]; exact a1
  · show f' j = if u.2 j then lN (Hh (h_adds u.1 a b un pr t) j) else -1
    rw [e j (by omega), hX j (by omega) (by omega)]; exact a4 j j3 j6
  · show f' _ = if i < Hh (h_adds u.1 a b un pr t) 0 ∧ j = 0 then lN (Hd u.1 i 0) else 0
    rw [e 0 (by omega), hX _ (by omega) (by omega)]; exact a6 i hi j hj
  · show f' _ = if i < Hh u.1 1 + 1 then lN (if i = Hh u.1 1 then sf a b un pr t j else u.1.2.2.2.1 i j) else 0
    by_cases q : i = Hh u.1 1
    · rw [q, hs j hj, if_pos (by omega), if_pos rfl]
    · rw [hX _ (by omega) (by omega), a7 i hi j hj, if_neg q]
      by_cases q2 : i < Hh u.1 1
      · rw [if_pos q2, if_pos (by omega)]
      · rw [if_neg q2, if_neg (by omega)]
theorem rd_one {j w : Nat} (h : rd f u) (h8 : Hh u.1 0 ≤ 8) (j3 : 3 ≤ j) (j6 : j ≤ 6) (hw : f' j = lN w) (hX : ∀ q, ¬ q = j → f' q = f q) : rd f' (hsH u.1 j w, su u.2 j) := by
  obtain ⟨a1, a2, a3, a4, a5, a6, a7⟩ := h
  have e : ∀ a, ¬ a = j → Hh (hsH u.1 j w) a = Hh u.1 a := fun a ha => if_neg ha
  refine ⟨?_, ?_, by rw [hX 2 (by omega)]; exact a3, fun x x3 x6 => ?_, by rw [hX 8 (by omega)]; exact a5, fun i hi q hq => ?_, fun i hi q hq => ?_⟩
  · show f' 0 = lN (Hh (hsH u.1 j w) 0)
    rw [e 0 (by omega), hX 0 (by omega)]; exact a1
  · show f' 1 = lN (Hh (hsH u.1 j w) 1)
    rw [e 1 (by omega), hX 1 (by omega)]; exact a2
  · show f' x = if su u.2 j x then lN (Hh (hsH u.1 j w) x) else -1
    by_cases q : x = j
    · subst q; rw [su_at, if_pos rfl, hw]; show lN w = lN (if x = x then w else _); rw [if_pos rfl]
    · rw [su_ne q, e x q, hX x q]; exact a4 x x3 x6
  · show f' _ = if i < Hh (hsH u.1 j w) 0 ∧ q = 0 then lN (Hd u.1 i 0) else 0
    rw [e 0 (by omega), hX _ (by omega)]; exact a6 i hi q hq
  · show f' _ = if i < Hh (hsH u.1 j w) 1 then lN (Hs u.1 i q) else 0
    rw [e 1 (by omega), hX _ (by omega)]; exact a7 i hi q hq
theorem rd_rule {C : List Nat} (h : rd f u) (h8 : Hh u.1 0 ≤ 8) (hX : ∀ q, ¬ q = 7 → q < 273 → f' q = f q) : rd f' (hsC u.1 C, su u.2 7) := by
  obtain ⟨a1, a2, a3, a4, a5, a6, a7⟩ := h
  refine ⟨by rw [hX 0 (by omega) (by omega)]; exact a1, by rw [hX 1 (by omega) (by omega)]; exact a2, by rw [hX 2 (by omega) (by omega)]; exact a3, fun j j3 j6 => ?_, by rw [hX 8 (by omega) (by omega)]; exact a5, fun i hi j hj => by rw [hX _ (by omega) (by omega)]; exact a6 i hi j hj, fun i hi j hj => by rw [hX _ (by omega) (by omega)]; exact a7 i hi j hj⟩
  show f' j = if su u.2 7 j then lN (Hh u.1 j) else -1
  rw [su_ne (by omega), hX j (by omega) (by omega)]; exact a4 j j3 j6
end RDL
section RLN
variable {g : ab_E} {d : Nat} {v : gd_D} {Q : ab_O → gd_D → Prop} {T : Nat → Int32} {n : Nat}
theorem rP.dd {h : Nat} {e : Nat × Nat} (hP : rP v T n (Sum.inl e)) (hh : h ≤ 520) : rP (gd_sI v 11 0 11 (nI h)) T n (Sum.inl e) := by
  obtain ⟨ht, k, hk, e0, e1, e2, e3, e4⟩ := hP
  exact ⟨⟨ht.1, by rw [sI_ne (by omega)]; exact ht.2.1, fun j hj => by rw [sI_ne (by omega)]; exact ht.2.2 j hj⟩, h, sI_at, hh, e1, e2, by rw [sI_ne (by omega)]; exact e3, by rw [sI_ne (by omega)]; exact e4⟩
theorem rP.dead {e : Nat × Nat} (hP : rP v T n (Sum.inl e)) : ¬ v.1 11 0 13 = 0 ∧ ¬ v.1 11 0 13 ≤ 0 := by
  obtain ⟨ht, k, hk, e0, e1, e2, e3, e4⟩ := hP
  rw [e3]
  exact ⟨nI_ne0 e1 (by omega), nI_nle e1 (by omega)⟩
theorem rP.live {p : Nat} (hP : rP v T n (Sum.inr p)) : v.1 11 0 13 = 0 ∧ v.1 11 0 13 ≤ 0 := by
  obtain ⟨ht, k, hk, e0, e3, e4⟩ := hP
  rw [e3]
  exact ⟨rfl, by decide⟩
/-- past a word of length l -/
theorem rE.w {p i : Nat} (hE : rE v T n p) (hi : i < 14) (hw : wi T n p = i) : rP (gd_sI v 11 0 11 (nI (p + tx_n i))) T n (Sum.inr (nx T n p)) ∧ fr fD v (gd_sI v 11 0 11 (nI (p + tx_n i))) ∧ p < n := by
  obtain ⟨t1, hh1, hf1, hst⟩ := id hE
  obtain ⟨te1, hlt⟩ := te_word hi hst.1 hw
  have hte := te_sp (T := T) hlt
  have f2 : fr fD v (gd_sI v 11 0 11 (nI (p + tx_n i))) := fr.sI ⟨rfl, rfl, Or.inl rfl⟩
  refine ⟨⟨rT.D t1 f2, p + tx_n i, sI_at, by omega, by rw [sI_ne (by omega)]; exact hf1, ?_⟩, f2, hlt⟩
  unfold nx
  rw [te1]
theorem rd.J {u : uT} {v' : gd_D} (h : rd (v.2.1 41 0) u) (hf : fr fD v v') : rd (v'.2.1 41 0) u := by
  rw [hf.J (fun j q => absurd q.1 (by decide))]; exact h
theorem r_dealerRead {p : Nat} {u : uT} (hd : 4 ≤ d) (hE : rE v T n p) (hw : wi T n p = 0) (hr : rd (v.2.1 41 0) u) (hc : rC v (Hc u.1)) (hu : uOK u) (hQ : ∀ v', fr fM v v' → rU v' T n (pDeal T n p u) → Q (Sum.inl none) v') : gd_C g mX11_dealerRead d 0 0 [zR 11 0] v Q := by
  have h8 := hu.1.1
  obtain ⟨t1, hh1, hf1, hst⟩ := id hE
  have hn := t1.1
  have hp := hst.1
  obtain ⟨P1, f1, hlt⟩ := hE.w (by omega) hw
  have el : p + tx_n 0 = p + 6 := rfl
  rw [el] at P1 f1
  refine c_X11_dealerRead hd ⟨nu_in (n := 0) (by decide) (by decide), ?_⟩
  rw [show ((0 : Int32)).toNatClampNeg = 0 from by decide, hr.1, nu_J 8, lN_eq (by omega) (by omega)]
  refine ⟨fun q => ?_, fun q => ?_⟩
  · have ep : pDeal T n p u = nb (pNum T n 0 10000 none (nx T n p)) (fun w q => Sum.inr (q, (h_addd u.1 w, u.2))) := if_neg (by omega)
    intro v1 h1
    rw [hh1, nu_I 6, nI_add] at h1
    subst h1
    refine r_number (a := 0) (hx := 10000) (by decide) (by omega) (Nat.le_refl 3) P1 (fun v2 x e he f2 P2 => ?_) (fun v2 p' w q ep' he f2 _ P2 => ?_)
    · rw [gd_rJ_at]
      have he : pNum T n 0 10000 none (nx T n p) = Sum.inl e := he
      refine ⟨fun z => absurd z P2.dead.2, fun _ => hQ v2 ((f1.tr f2).wk fD_M) ?_⟩
      rw [ep, he]; exact P2
    · cases ep'
      rw [gd_rJ_at]
      refine ⟨fun _ => ?_, fun z => absurd P2.live.2 z⟩
      have r2 := hr.J (f1.tr f2)
      have c2 := hc.D (f1.tr f2)
      rw [show ((0 : Int32)).toNatClampNeg = 0 from by decide, r2.1, lN_i]
      refine ⟨nu_in (n := 0) (by decide) (by decide), ?_⟩
      rintro _ rfl
      rw [show (9 : Int32) + 6 * nI (Hh u.1 0) + 0 = nI (9 + 6 * Hh u.1 0 + 0) from nu_d _ 0, nI_clamp (by omega)]
      refine ⟨nu_in (by omega) (by omega), ?_⟩
      rintro _ rfl
      refine ⟨nu_in (n := 0) (by decide) (by decide), nu_in (n := 0) (by decide) (by decide), ?_⟩
      intro v6 h6
      have f6 : fr fM v2 v6 := by rw [h6]; exact (fr.sJ (Or.inr (Or.inr ⟨rfl, rfl⟩))).tr (fr.sJ (Or.inr (Or.inr ⟨rfl, rfl⟩)))
      have e0 : v6.2.1 41 0 0 = lN (Hh u.1 0 + 1) := by rw [h6, sJ_at, sJ_ne (by omega), r2.1, lN_1]
      have eS : v6.2.1 41 0 (9 + 6 * Hh u.1 0 + 0) = lN w := by rw [h6, sJ_ne (by omega), sJ_at]
      have eX : ∀ q, ¬ q = 0 → ¬ q = 9 + 6 * Hh u.1 0 + 0 → v6.2.1 41 0 q = v2.2.1 41 0 q := fun q q1 q2 => by rw [h6, sJ_ne (by omega), sJ_ne (by omega)]
      refine hQ v6 (((f1.tr f2).wk fD_M).tr f6) ?_
      rw [ep, he, nb_r]
      exact ⟨P2.e (by rw [h6]; rfl), rd_addd r2 (by omega) e0 eS eX, by rw [eX 7 (by omega) (by omega)]; exact c2.1, fun i hi => by rw [eX _ (by omega) (by omega)]; exact c2.2 i hi⟩
  · rw [hh1]
    refine r_wrong (w := 3) (by omega) (by omega) hE.P (fun v1 g1 e11 _ Q1 => ?_)
    rw [gd_rV_at]
    have Q1 : rP v1 T n (Sum.inl (3, p)) := Q1
    intro v2 h2
    rw [e11, hh1, nu_I 6, nI_add] at h2
    subst h2
    have f2 : fr fD v1 (gd_sI v1 11 0 11 (nI (p + 6))) := fr.sI ⟨rfl, rfl, Or.inl rfl⟩
    refine r_number (a := 0) (hx := 10000) (by decide) (by omega) (Nat.le_refl 3) (Q1.dd (h := p + 6) (by omega)) (fun v3 x e he f3 P3 => ?_) (fun v3 p' w q ep' he f3 _ P3 => by cases ep')
    rw [gd_rJ_at]
    cases he
    refine ⟨fun z => absurd z P3.dead.2, fun _ => hQ v3 (((g1.tr f2).tr f3).wk fD_M) ?_⟩
    rw [show pDeal T n p u = Sum.inl (3, p) from if_pos (by omega)]
    exact P3
theorem r_nD {a b : Int64} {e : Nat × Nat} (hd : 3 ≤ d) (hP : rP v T n (Sum.inl e)) (hQ : ∀ v' x, fr fD v v' → rP v' T n (Sum.inl e) → Q (Sum.inl (some (zJ x))) v') : gd_C g mX11_number d 0 0 [zR 11 0, zJ a, zJ b] v Q := by
  refine c_X11_number hd (r_sign hP (fun v1 x e' q f1 P1 => ?_) (fun v1 p q f1 E1 => by cases q))
  cases q
  rw [gd_rI_at]
  exact ⟨fun _ => ⟨fun z => absurd z P1.dead.2, fun _ => hQ v1 0 (f1.wk fD1_D) P1⟩, fun z => absurd z P1.dead.1⟩
end RLN
