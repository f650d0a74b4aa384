/-! THE FIRST RING, the reference's side -/
def fg (k _ j : Nat) : Prop := k = 49 ∨ k = 50 ∨ (k = 11 ∧ j = 22)
theorem fg_n {k i j : Nat} (h1 : ¬ k = 49) (h2 : ¬ k = 50) (h3 : ¬ k = 11) : ¬ fg k i j := fun q => by rcases q with q | q | q <;> omega
/-- the row as the reference holds it, with its places in the order -/
def rl_R (v : gd_D) (H : hs_T) (O : List Nat) : List Nat → List Nat → Prop
  | [], [] => True
  | s :: R, a :: T => v.1 49 0 R.length = nI s ∧ v.1 50 0 R.length = nI a ∧ 1 ≤ a ∧ a ≤ Hh H 1 ∧ O.getD (a - 1) 0 = s ∧ (∀ j, j < a - 1 → ¬ rg_X H (O.getD j 0 :: R)) ∧ rl_R v H O R T
  | _, _ => False
theorem rl_R.len {v : gd_D} {H : hs_T} {O : List Nat} : ∀ {R T : List Nat}, rl_R v H O R T → T.length = R.length
  | [], [], _ => rfl
  | [], _ :: _, h => h.elim
  | _ :: _, [], h => h.elim
  | _ :: R, _ :: T, h => by rw [List.length_cons, List.length_cons, rl_R.len h.2.2.2.2.2.2]
theorem rl_R.mem {v : gd_D} {H : hs_T} {O : List Nat} : ∀ {R T : List Nat}, rl_R v H O R T → ∀ j, j < R.length → v.1 49 0 j = nI (R.reverse.getD j 0)
  | [], [], _, j, hj => absurd hj (Nat.not_lt_zero j)
  | [], _ :: _, h, _, _ => h.elim
  | _ :: _, [], h, _, _ => h.elim
  | s :: R, a :: T, h, j, hj => by
    rw [List.length_cons] at hj
    rw [List.reverse_cons]
    by_cases e : j = R.length
    · subst e
      rw [h.1, getD_app_r (by rw [List.length_reverse]; exact Nat.le_refl _), List.length_reverse, Nat.sub_self]; rfl
    · rw [getD_app_l (by rw [List.length_reverse]; omega)]
      exact rl_R.mem h.2.2.2.2.2.2 j (by omega)
theorem rl_R.keep {v v' : gd_D} {H : hs_T} {O : List Nat} : ∀ {R T : List Nat}, rl_R v H O R T → (∀ j, j < R.length → v'.1 49 0 j = v.1 49 0 j ∧ v'.1 50 0 j = v.1 50 0 j) → rl_R v' H O R T
  | [], [], _, _ => trivial
  | [], _ :: _, h, _ => h.elim
  | _ :: _, [], h, _ => h.elim
  | s :: R, a :: T, h, hk => by
    obtain ⟨a1, a2, a3, a4, a5, a6, a7⟩ := h
    have := hk R.length (Nat.lt_succ_self _)
    exact ⟨this.1.trans a1, this.2.trans a2, a3, a4, a5, a6, a7.keep (fun j hj => hk j (Nat.lt_succ_of_lt hj))⟩
theorem rl_R.G {v : gd_D} {H : hs_T} {O : List Nat} (hO : ord_ok O (Hh H 1)) : ∀ {R T : List Nat}, rl_R v H O R T → rg_G H O R
  | [], [], _ => trivial
  | [], _ :: _, h => h.elim
  | _ :: _, [], h => h.elim
  | s :: R, a :: T, h => by
    obtain ⟨a1, a2, a3, a4, a5, a6, a7⟩ := h
    have hlt : a - 1 < O.length := by rw [hO.1]; omega
    refine ⟨⟨O.take (a - 1), O.drop a, ?_, fun x hx => ?_⟩, a7.G hO⟩
    · have e := List.drop_eq_getElem_cons hlt
      rw [show a - 1 + 1 = a from by omega] at e
      rw [List.getD_eq_getElem?_getD, List.getElem?_eq_getElem hlt] at a5
      have a5' : O[a - 1] = s := a5
      rw [a5'] at e
      rw [← e, List.take_append_drop]
    · obtain ⟨j, hj, e⟩ := List.mem_take_iff_getElem.mp hx
      have hj2 : j < O.length := by omega
      have := a6 j (by omega)
      rw [List.getD_eq_getElem?_getD, List.getElem?_eq_getElem hj2] at this
      rw [← e]; exact this
/-- how far the search still has to go -/
def rl_ph (N : Nat) : List Nat → Nat
  | [] => 0
  | a :: T => (N + 1 - a) * 26 ^ (8 - T.length) + rl_ph N T
section RR
variable {g : ab_E} {d : Nat} {v : gd_D} {Q : ab_O → gd_D → Prop} {H : hs_T}
theorem r_isRung {i : Nat} (hd : 4 ≤ d) (hR : rm_R (v.2.1 40 0) H) (hW : hs_W H) (hi : i < Hh H 1) (h : Q (Sum.inl (some (zI (b2 (rg_fit H i))))) v) : gd_C g mX11_isRung d 0 0 [zR 11 0, zI (nI i)] v Q := by
  have h5 := hW.V.five hi
  have hlot := hW.2.2.2.2.2.1
  refine c_X11_isRung hd (r_isAsked (Nat.le_refl 3) hR hW hi ⟨fun hc => ?_, fun hc => r_of (w := 5) hR hW hi (by decide) ⟨nu_in (n := 5) (by decide) (by decide), ?_⟩⟩)
  · rw [show rg_fit H i = false from by
      have := b2_0 hc
      unfold hq at this
      unfold rg_fit
      cases e : decide (Hs H i 4 ≤ Hh H 2) with
      | false => rfl
      | true =>
        rw [e, Bool.true_and] at this
        have := of_decide_eq_false this
        rw [decide_eq_false (by omega)]; rfl] at h
    exact h
  · rw [show ((5 : Int32)).toNatClampNeg = 5 from by decide, hR.1 5 (by omega), nu_l (by omega), lN_lt (by omega) (by omega)]
    have hq1 := b2_1 hc
    unfold hq at hq1
    have hq2 := (Bool.and_eq_true_iff.mp hq1).1
    unfold rg_fit at h
    rw [hq2, Bool.true_and] at h
    refine ⟨fun q => ?_, fun q => ?_⟩
    · rw [decide_eq_false (by omega)] at h; exact h
    · rw [decide_eq_true (by omega)] at h; exact h
theorem r_hasSeller {x : Nat} {L : List Nat} (hd : 3 ≤ d) (hx : x < 8) (hR : rm_R (v.2.1 40 0) H) (hW : hs_W H) (hn : v.1 11 0 22 = nI L.length) (hm : ∀ j, j < L.length → v.1 49 0 j = nI (L.getD j 0)) (hL8 : L.length ≤ 8) (hLm : ∀ s ∈ L, s < Hh H 1) (h1 : (∃ s ∈ L, Hs H s 0 = x) → Q (Sum.inl (some (zI 1))) v) (h0 : (∀ s ∈ L, ¬ Hs H s 0 = x) → Q (Sum.inl (some (zI 0))) v) : gd_C g mX11_hasSeller d 0 0 [zR 11 0, zI (nI x)] v Q := by
  have h8 := hW.1
  have h24 := hW.2.1
  refine c_X11_hasSeller (Nat.zero_le _) ?_
  have key : ∀ (l : List Nat) (i : Nat), L.drop i = l → i ≤ L.length → ((∀ s ∈ l, ¬ Hs H s 0 = x) → ∀ s ∈ L, ¬ Hs H s 0 = x) → gd_G g mX11_hasSeller d 0 0 2 [(0, zR 11 0), (1, zI (nI x)), (2, zI (nI i))] [] v Q := by
    intro l
    induction l with
    | nil =>
      intro i hl hi hno
      have ei := drop_end hl hi
      exact w_X11_hasSeller_2 hd (pk_le L.length i (fun _ => h0 (hno (fun s hs => by cases hs))) (fun q => absurd q (by omega)) hn rfl (by omega) (by omega))
    | cons s l ih =>
      intro i hl hi hno
      obtain ⟨hi2, e0, hl2, hmem⟩ := drop_at hl
      have hs := hLm s hmem
      have s1 := (hW.2.2.2.2.2.2.2.2.1 s hs).1
      refine w_X11_hasSeller_2 hd (pk_le L.length i (fun q => absurd q (by omega)) (fun _ => ⟨nu_in (by omega) (by omega), ?_⟩) hn rfl (by omega) (by omega))
      rw [nI_clamp (by omega), hm i hi2, e0]
      refine r_of (w := 0) hR hW hs (by decide) ?_
      rw [gd_rI_at, nI_eq (by omega) (by omega)]
      refine ⟨fun q => ?_, fun q => h1 ⟨s, hmem, q⟩⟩
      rw [nu_1]
      exact ih (i + 1) hl2 (by omega) (fun hl0 => hno (fun y hy => by
        rcases List.mem_cons.mp hy with e | e
        · rw [e]; exact q
        · exact hl0 y e))
  exact key L 0 rfl (Nat.zero_le _) (fun q => q)
theorem r_canRing {s : Nat} {O R T : List Nat} (hd : 5 ≤ d) (hR : rm_R (v.2.1 40 0) H) (hW : hs_W H) (hs : s < Hh H 1) (hn : v.1 11 0 22 = nI R.length) (hl : rl_R v H O R T) (hp : rg_p H R) (h1 : rg_p H (s :: R) → Q (Sum.inl (some (zI 1))) v) (h0 : ¬ rg_p H (s :: R) → Q (Sum.inl (some (zI 0))) v) : gd_C g mX11_canRing d 0 0 [zR 11 0, zI (nI s)] v Q := by
  have h8 := hW.1
  have hlen := hp.len hW.V
  have s1 := (hW.2.2.2.2.2.2.2.2.1 s hs).1
  refine c_X11_canRing hd (r_isRung (Nat.le_refl 4) hR hW hs ⟨fun hc => h0 (fun q => ?_), fun hc => r_of (w := 0) hR hW hs (by decide) ?_⟩)
  · have := q.1.2
    rw [b2_0 hc] at this; cases this
  · have e1 := b2_1 hc
    refine r_hasSeller (L := R.reverse) (Nat.le_refl 3) (by omega) hR hW (by rw [List.length_reverse]; exact hn) (fun j hj => hl.mem j (by rw [List.length_reverse] at hj; exact hj)) (by rw [List.length_reverse]; exact hlen) (fun x hx => (hp.mem x (List.mem_reverse.mp hx)).1) (fun hyes => ?_) (fun hno => ?_)
    · refine ⟨fun q => absurd q (by decide), fun _ => h0 (fun q => ?_)⟩
      obtain ⟨x, x1, x2⟩ := hyes
      exact q.2.1 x (List.mem_reverse.mp x1) x2
    · refine ⟨fun _ => ?_, fun q => absurd rfl q⟩
      have hno' : ∀ x ∈ R, ¬ Hs H x 0 = Hs H s 0 := fun x hx => hno x (List.mem_reverse.mpr hx)
      cases R with
      | nil =>
        refine ⟨fun _ => h1 ⟨⟨hs, e1⟩, hno', fun r hr => (by cases hr), trivial⟩, fun q => absurd hn q⟩
      | cons r R =>
        refine ⟨fun q => ?_, fun _ => ?_⟩
        · rw [hn] at q
          exact absurd ((nI_eq (b := 0) (by omega) (by omega)).mp q) (by simp)
        · cases T with
          | nil => exact hl.elim
          | cons a T =>
            have hr := (hp.mem r List.mem_cons_self).1
            have r2 := (hW.2.2.2.2.2.2.2.2.1 r hr).2.1
            rw [hn, List.length_cons, nu_q]
            rw [List.length_cons] at hlen
            refine ⟨nu_in (by omega) (by omega), ?_⟩
            rintro _ rfl
            rw [nI_clamp (by omega), hl.1]
            refine r_of (w := 1) hR hW hr (by decide) (r_of (w := 0) hR hW hs (by decide) ?_)
            rw [gd_rI_at, nI_eq (by omega) (by omega)]
            refine ⟨fun q => h0 (fun z => q (z.2.2.1 r rfl)), fun q => h1 ⟨⟨hs, e1⟩, hno', fun x hx => (by cases hx; exact q), hp⟩⟩
theorem r_finds {O : List Nat} (hd : 6 ≤ d) (hR : rm_R (v.2.1 40 0) H) (hW : hs_W H) (hO : rm_O v O) (hOk : ord_ok O (Hh H 1)) (h1 : ∀ v' R, fr fg v v' → rg_F H O R → v'.1 11 0 22 = nI R.length → (∀ j, j < R.length → v'.1 49 0 j = nI (R.reverse.getD j 0)) → Q (Sum.inl (some (zI 1))) v') (h0 : ∀ v', fr fg v v' → (∀ R, ¬ rg_F H O R) → Q (Sum.inl (some (zI 0))) v') : gd_C g mX11_finds d 0 0 [zR 11 0] v Q := by
  have h24 := hW.2.1
  have h8 := hW.1
  have hl := hOk.1
  have key : ∀ (n : Nat) (R T : List Nat) (a : Nat) (u : gd_D), rl_ph (Hh H 1) (a :: T) < n → fr fg v u → u.1 11 0 22 = nI R.length → u.1 50 0 R.length = nI a → a ≤ Hh H 1 → rg_p H R → ¬ rg_c H R → R.length ≤ 7 → (∀ j, j < a → ¬ rg_X H (O.getD j 0 :: R)) → rl_R u H O R T → gd_G g mX11_finds d 0 0 12 [(0, zR 11 0)] [] u Q := by
    intro n
    induction n with
    | zero => intro R T a u h; exact absurd h (Nat.not_lt_zero _)
    | succ n ih =>
      intro R T a u hph hfr hn ha ha2 hp hc h7 hno hrl
      have hTl := hrl.len
      have hRu : rm_R (u.2.1 40 0) H := by rw [hfr.J (fun _ => fg_n (by decide) (by decide) (by decide))]; exact hR
      have hOu : rm_O u O := fun j hj => by rw [hfr.I (fun _ => fg_n (by decide) (by decide) (by decide))]; exact hO j hj
      refine w_X11_finds_12 hd ⟨by rw [hn]; exact nu_in (by omega) (by omega), r_sales hRu ?_⟩
      rw [gd_rI_at, hn, nI_clamp (by omega), ha, nI_eq (by omega) (by omega)]
      refine ⟨fun hne => ⟨nu_in (by omega) (by omega), ?_⟩, fun he => ⟨fun hr0 => ?_, fun hr0 => ?_⟩⟩
      · rintro _ rfl
        have haO : a < O.length := by omega
        have hsm : O.getD a 0 < Hh H 1 := by
          apply (hOk.2.1 _).mp
          rw [List.getD_eq_getElem?_getD, List.getElem?_eq_getElem haO]
          exact List.getElem_mem haO
        refine ⟨nu_in (by omega) (by omega), nu_in (by omega) (by omega), ?_⟩
        rintro _ rfl
        refine ⟨nu_in (by omega) (by omega), ?_⟩
        rintro _ rfl
        rw [nI_clamp (by omega), hOu a haO, nu_1]
        have hRu' : rm_R ((gd_sI u 50 0 R.length (nI (a + 1))).2.1 40 0) H := hRu
        have hrl' : rl_R (gd_sI u 50 0 R.length (nI (a + 1))) H O R T := hrl.keep (fun j hj => ⟨sI_ne (by omega), sI_ne (by omega)⟩)
        have hn' : (gd_sI u 50 0 R.length (nI (a + 1))).1 11 0 22 = nI R.length := by rw [sI_ne (by omega)]; exact hn
        have hfr' : fr fg v (gd_sI u 50 0 R.length (nI (a + 1))) := hfr.tr (fr.sI (Or.inr (Or.inl rfl)))
        have ph1 : rl_ph (Hh H 1) ((a + 1) :: T) + 26 ^ (8 - T.length) = rl_ph (Hh H 1) (a :: T) := by
          show (Hh H 1 + 1 - (a + 1)) * 26 ^ (8 - T.length) + rl_ph (Hh H 1) T + 26 ^ (8 - T.length) = (Hh H 1 + 1 - a) * 26 ^ (8 - T.length) + rl_ph (Hh H 1) T
          rw [show Hh H 1 + 1 - a = (Hh H 1 + 1 - (a + 1)) + 1 from by omega, Nat.add_mul]
          omega
        have p26 : 0 < 26 ^ (8 - T.length) := Nat.pow_pos (by decide)
        -- going on behind a sale that leads to no ring
        have back : ∀ z : gd_D, fr fg v z → z.1 11 0 22 = nI R.length → z.1 50 0 R.length = nI (a + 1) → rl_R z H O R T → ¬ rg_X H (O.getD a 0 :: R) → gd_G g mX11_finds d 0 0 12 [(0, zR 11 0)] [] z Q := by
          intro z z1 z2 z3 z4 z5
          refine ih R T (a + 1) z (by omega) z1 z2 z3 (by omega) hp hc h7 (fun j hj => ?_) z4
          by_cases e : j = a
          · rw [e]; exact z5
          · exact hno j (by omega)
        refine r_canRing (Nat.le_refl 5) hRu' hW hsm hn' hrl' hp (fun hp2 => ?_) (fun hnp => ?_)
        · rw [gd_rI_at]
          refine ⟨fun _ => ?_, fun q => absurd q (by decide)⟩
          rw [hn', nI_clamp (by omega)]
          refine ⟨nu_in (by omega) (by omega), ?_⟩
          rintro _ rfl
          rintro _ rfl
          rw [show (gd_sI (gd_sI u 50 0 R.length (nI (a + 1))) 49 0 R.length (nI (O.getD a 0))).1 11 0 22 = nI R.length from by rw [sI_ne (by omega)]; exact hn', nu_1]
          have hR9 : rm_R ((gd_sI (gd_sI (gd_sI u 50 0 R.length (nI (a + 1))) 49 0 R.length (nI (O.getD a 0))) 11 0 22 (nI (R.length + 1))).2.1 40 0) H := hRu
          have hfr9 : fr fg v (gd_sI (gd_sI (gd_sI u 50 0 R.length (nI (a + 1))) 49 0 R.length (nI (O.getD a 0))) 11 0 22 (nI (R.length + 1))) := (hfr'.tr (fr.sI (Or.inl rfl))).tr (fr.sI (Or.inr (Or.inr ⟨rfl, rfl⟩)))
          have hrl9 : rl_R (gd_sI (gd_sI (gd_sI u 50 0 R.length (nI (a + 1))) 49 0 R.length (nI (O.getD a 0))) 11 0 22 (nI (R.length + 1))) H O (O.getD a 0 :: R) ((a + 1) :: T) := by
            refine ⟨?_, ?_, by omega, by omega, rfl, fun j hj => hno j (by omega), hrl.keep (fun j hj => ⟨?_, ?_⟩)⟩
            · rw [sI_ne (by omega), sI_at]
            · rw [sI_ne (by omega), sI_ne (by omega), sI_at]
            · rw [sI_ne (by omega), sI_ne (by omega), sI_ne (by omega)]
            · rw [sI_ne (by omega), sI_ne (by omega), sI_ne (by omega)]
          have hb := (hW.2.2.2.2.2.2.2.2.1 _ hsm).2.1
          -- the first of the row
          have hne2 : ¬ (O.getD a 0 :: R) = [] := fun q => by cases q
          have first : ∃ f0, f0 < Hh H 1 ∧ (gd_sI (gd_sI (gd_sI u 50 0 R.length (nI (a + 1))) 49 0 R.length (nI (O.getD a 0))) 11 0 22 (nI (R.length + 1))).1 49 0 0 = nI f0 ∧ Hs H f0 0 = rg_h H (O.getD a 0 :: R) := by
            refine ⟨(O.getD a 0 :: R).reverse.getD 0 0, ?_, hrl9.mem 0 (Nat.succ_pos _), ?_⟩
            · have h0l : 0 < (O.getD a 0 :: R).reverse.length := by rw [List.length_reverse]; exact Nat.succ_pos _
              rw [List.getD_eq_getElem?_getD, List.getElem?_eq_getElem h0l]
              exact (hp2.mem _ (List.mem_reverse.mp (List.getElem_mem h0l))).1
            · have : ∀ R : List Nat, ¬ R = [] → Hs H (R.reverse.getD 0 0) 0 = rg_h H R := by
                intro R
                induction R with
                | nil => exact fun q => absurd rfl q
                | cons s R ihR =>
                  intro _
                  by_cases e : R = []
                  · subst e; rfl
                  · rw [List.reverse_cons, getD_app_l (by rw [List.length_reverse]; exact List.length_pos_iff.mpr e), ihR e, rg_h_cons e]
              exact this _ hne2
          obtain ⟨f0, f1, f2, f3⟩ := first
          have hf8 := (hW.2.2.2.2.2.2.2.2.1 f0 f1).1
          refine r_of (w := 1) hR9 hW hsm (by decide) ⟨nu_in (n := 0) (by decide) (by decide), ?_⟩
          rw [show ((0 : Int32)).toNatClampNeg = 0 from by decide, f2]
          refine r_of (w := 0) hR9 hW f1 (by decide) ?_
          rw [gd_rI_at, nI_eq (by omega) (by omega), f3, sI_at]
          refine ⟨fun hnc => ?_, fun hcl => ?_⟩
          · have hnc2 : ¬ rg_c H (O.getD a 0 :: R) := fun ⟨s, T', e1, e2⟩ => hnc (by cases e1; exact e2)
            refine pk_le 8 (R.length + 1) (fun q8 => ?_) (fun q8 => ?_) rfl rfl (by omega) (by omega)
            · rintro _ rfl
              rw [nu_q]
              refine back _ (hfr9.tr (fr.sI (Or.inr (Or.inr ⟨rfl, rfl⟩)))) sI_at ?_ ?_ (fun hX => ?_)
              · rw [sI_ne (by omega), sI_ne (by omega), sI_ne (by omega), sI_at]
              · exact hrl9.2.2.2.2.2.2.keep (fun j hj => ⟨sI_ne (by omega), sI_ne (by omega)⟩)
              · obtain ⟨t, ht⟩ := hX.nx hnc2
                have := ht.p.len hW.V
                rw [List.length_cons, List.length_cons] at this
                omega
            · refine ⟨nu_in (by omega) (by omega), ?_⟩
              rintro _ rfl
              rw [nI_clamp (by omega)]
              refine ih (O.getD a 0 :: R) ((a + 1) :: T) 0 _ ?_ (hfr9.tr (fr.sI (Or.inr (Or.inl rfl)))) ?_ sI_at (Nat.zero_le _) hp2 hnc2 (by rw [List.length_cons]; omega) (fun j hj => absurd hj (Nat.not_lt_zero j)) (hrl9.keep (fun j hj => ?_))
              · have e : rl_ph (Hh H 1) (0 :: (a + 1) :: T) = (Hh H 1 + 1 - 0) * 26 ^ (8 - (T.length + 1)) + rl_ph (Hh H 1) ((a + 1) :: T) := rfl
                have e2 : 26 ^ (8 - T.length) = 26 * 26 ^ (8 - (T.length + 1)) := by
                  rw [show 8 - T.length = (8 - (T.length + 1)) + 1 from by omega, Nat.pow_succ, Nat.mul_comm]
                have e3 : (Hh H 1 + 1 - 0) * 26 ^ (8 - (T.length + 1)) ≤ 25 * 26 ^ (8 - (T.length + 1)) := Nat.mul_le_mul_right _ (by omega)
                have e4 : 0 < 26 ^ (8 - (T.length + 1)) := Nat.pow_pos (by decide)
                omega
              · rw [sI_ne (by omega), sI_at]; rfl
              · rw [List.length_cons] at hj
                exact ⟨sI_ne (by omega), sI_ne (by omega)⟩
          · exact h1 _ (O.getD a 0 :: R) hfr9 ⟨hp2, ⟨_, _, rfl, hcl⟩, hrl9.G hOk⟩ sI_at (fun j hj => hrl9.mem j hj)
        · rw [gd_rI_at]
          exact ⟨fun q => absurd rfl q, fun _ => back _ hfr' hn' sI_at hrl' (fun hX => hnp hX.p)⟩
      · have noX : ¬ rg_X H R := fun hX => by
          obtain ⟨t, ht⟩ := hX.nx hc
          have htO := (hOk.2.1 t).mpr ht.p.1.1
          obtain ⟨j, hj, e⟩ := List.mem_iff_getElem.mp htO
          have := hno j (by omega)
          rw [List.getD_eq_getElem?_getD, List.getElem?_eq_getElem hj] at this
          exact this (by rw [← e] at ht; exact ht)
        cases R with
        | nil => exact absurd rfl hr0
        | cons s R =>
          cases T with
          | nil => exact hrl.elim
          | cons b T =>
            obtain ⟨c1, c2, c3, c4, c5, c6, c7⟩ := hrl
            rintro _ rfl
            rw [List.length_cons, nu_q]
            rw [List.length_cons] at h7
            refine ih R T b _ ?_ (hfr.tr (fr.sI (Or.inr (Or.inr ⟨rfl, rfl⟩)))) sI_at (by rw [sI_ne (by omega)]; exact c2) c4 hp.2.2.2 (fun hcc => hcc.no hp) (by omega) (fun j hj => ?_) (c7.keep (fun j hj => ⟨sI_ne (by omega), sI_ne (by omega)⟩))
            · have e : rl_ph (Hh H 1) (a :: b :: T) = (Hh H 1 + 1 - a) * 26 ^ (8 - (T.length + 1)) + rl_ph (Hh H 1) (b :: T) := rfl
              have e4 : 0 < 26 ^ (8 - (T.length + 1)) := Nat.pow_pos (by decide)
              have e5 : 1 * 26 ^ (8 - (T.length + 1)) ≤ (Hh H 1 + 1 - a) * 26 ^ (8 - (T.length + 1)) := Nat.mul_le_mul_right _ (by omega)
              omega
            · by_cases e : j = b - 1
              · rw [e, c5]; exact noX
              · exact c6 j (by omega)
      · cases R with
        | cons s R =>
          exact absurd ((nI_eq (b := 0) (by omega) (by omega)).mp hr0) (by simp)
        | nil =>
          refine h0 u hfr (rg_F_no (fun s hs hX => ?_) (fun s hs => (hOk.2.1 s).mpr hs))
          obtain ⟨j, hj, e⟩ := List.mem_iff_getElem.mp hs
          have := hno j (by omega)
          rw [List.getD_eq_getElem?_getD, List.getElem?_eq_getElem hj] at this
          exact this (by rw [← e] at hX; exact hX)
  refine c_X11_finds (Nat.zero_le _) ?_
  rintro _ rfl
  refine ⟨nu_in (n := 0) (by decide) (by decide), ?_⟩
  rintro _ rfl
  rw [show ((0 : Int32)).toNatClampNeg = 0 from by decide]
  refine key _ [] [] 0 _ (Nat.lt_succ_self _) ((fr.sI (Or.inr (Or.inr ⟨rfl, rfl⟩))).tr (fr.sI (Or.inr (Or.inl rfl)))) ?_ sI_at (Nat.zero_le _) trivial (fun ⟨s, T, e, _⟩ => by cases e) (by decide) (fun j hj => absurd hj (Nat.not_lt_zero j)) trivial
  rw [sI_ne (by omega), sI_at]; rfl
end RR
