/-! THE FIRST RING AND ITS UNITS, the class's side -/
def rg_m (H : hs_T) : List Nat → Nat
  | [] => 0
  | s :: L => L.foldl (fun a x => min a (Hs H x 5)) (Hs H s 5)
def rg_u (H : hs_T) (L : List Nat) : Nat := rg_m H L - rg_m H L % Hh H 5
theorem fm_le {H : hs_T} : ∀ (L : List Nat) (a : Nat), L.foldl (fun a x => min a (Hs H x 5)) a ≤ a ∧ ∀ s ∈ L, L.foldl (fun a x => min a (Hs H x 5)) a ≤ Hs H s 5
  | [], a => ⟨Nat.le_refl _, fun s hs => by cases hs⟩
  | x :: L, a => by
    obtain ⟨h1, h2⟩ := fm_le (H := H) L (min a (Hs H x 5))
    refine ⟨Nat.le_trans h1 (Nat.min_le_left _ _), fun s hs => ?_⟩
    rcases List.mem_cons.mp hs with q | q
    · rw [q]; exact Nat.le_trans h1 (Nat.min_le_right _ _)
    · exact h2 s q
theorem fm_ge {H : hs_T} {m : Nat} : ∀ (L : List Nat) (a : Nat), m ≤ a → (∀ s ∈ L, m ≤ Hs H s 5) → m ≤ L.foldl (fun a x => min a (Hs H x 5)) a
  | [], a, h, _ => h
  | x :: L, a, h, hL => fm_ge L (min a (Hs H x 5)) (by have := hL x List.mem_cons_self; omega) (fun s hs => hL s (List.mem_cons_of_mem x hs))
theorem rg_m_le {H : hs_T} {L : List Nat} {s : Nat} (hs : s ∈ L) : rg_m H L ≤ Hs H s 5 := by
  cases L with
  | nil => cases hs
  | cons x L =>
    rcases List.mem_cons.mp hs with q | q
    · rw [q]; exact (fm_le L _).1
    · exact (fm_le L _).2 s q
theorem rg_u_le {H : hs_T} {L : List Nat} {s : Nat} (hs : s ∈ L) : rg_u H L ≤ Hs H s 5 := Nat.le_trans (Nat.sub_le _ _) (rg_m_le hs)
theorem rg_fit_5 {H : hs_T} {s : Nat} (h : rg_fit H s = true) : Hh H 5 ≤ Hs H s 5 ∧ Hs H s 4 ≤ Hh H 2 := by
  unfold rg_fit at h
  have := Bool.and_eq_true_iff.mp h
  exact ⟨of_decide_eq_true this.2, of_decide_eq_true this.1⟩
theorem rg_u_pos {H : hs_T} (hV : hs_V H) {L : List Nat} (hne : ¬ L = []) (hL : ∀ s ∈ L, rg_fit H s = true) : 0 < rg_u H L := by
  cases L with
  | nil => exact absurd rfl hne
  | cons x L =>
    have h1 : Hh H 5 ≤ rg_m H (x :: L) := fm_ge L _ (rg_fit_5 (hL x List.mem_cons_self)).1 (fun s hs => (rg_fit_5 (hL s (List.mem_cons_of_mem x hs))).1)
    have h2 := hV.2.2.2.2.2.1
    have h3 := Nat.mod_lt (rg_m H (x :: L)) (show 0 < Hh H 5 by omega)
    unfold rg_u
    omega
section CF
variable {g : ab_E} {d : Nat} {v : gd_D} {Q : ab_O → gd_D → Prop} {H : hs_T} {h : Nat}
theorem k_leastOpen {r : Nat} {L : List Nat} (hd : 3 ≤ d) (hR : cr_R v h H) (hW : hs_W H) (hm : cm_R v r L) (hL8 : L.length ≤ 8) (hLm : ∀ s ∈ L, s < Hh H 1) (hne : ¬ L = []) (hQ : Q (Sum.inl (some (zI (nI (rg_m H L))))) v) : gd_C g mX8_leastOpen d 0 0 [zR 8 r, zR 2 h] v Q := by
  have h24 := hW.2.1
  cases L with
  | nil => exact absurd rfl hne
  | cons s0 L0 =>
    have hs0 := hLm s0 List.mem_cons_self
    have m0 : v.1 36 r 0 = nI s0 := hm.2 0 (Nat.succ_pos _)
    refine c_X8_leastOpen (Nat.zero_le _) ?_
    unfold wp_X8_leastOpen
    rw [show ((0 : Int32)).toNatClampNeg = 0 from by decide, m0, nI_clamp (by omega)]
    refine ⟨nu_in (n := 0) (by decide) (by decide), nu_in (by omega) (by omega), ?_⟩
    rintro _ rfl
    rw [hR.2.2.2.1 s0 hs0 5 (by omega)]
    have key : ∀ (l : List Nat) (i a : Nat), (s0 :: L0).drop i = l → i ≤ (s0 :: L0).length → a ≤ 1000 → l.foldl (fun a x => min a (Hs H x 5)) a = rg_m H (s0 :: L0) → gd_G g mX8_leastOpen d 0 0 17 [(0, zR 8 r), (1, zR 2 h), (2, zI (nI a)), (3, zI (nI i))] [] v Q := by
      intro l
      induction l with
      | nil =>
        intro i a hl hi ha he
        have ei := drop_end hl hi
        refine w_X8_leastOpen_17 hd (pk_le (s0 :: L0).length i (fun _ => ?_) (fun q => absurd q (by omega)) hm.1 rfl (by omega) (by omega))
        have he' : a = rg_m H (s0 :: L0) := he
        rw [he']; exact hQ
      | cons s l ih =>
        intro i a hl hi ha he
        obtain ⟨hi2, e0, hl2, hmem⟩ := drop_at hl
        have hs := hLm s hmem
        have h5 := hW.V.five hs
        have mi : v.1 36 r i = nI s := by rw [hm.2 i hi2, e0]
        refine w_X8_leastOpen_17 hd (pk_le (s0 :: L0).length i (fun q => absurd q (by omega)) (fun _ => ⟨nu_in (by omega) (by omega), ?_⟩) hm.1 rfl (by omega) (by omega))
        rw [nI_clamp (by omega), mi, nI_clamp (by omega)]
        refine ⟨nu_in (by omega) (by omega), ?_⟩
        rintro _ rfl
        rw [hR.2.2.2.1 s hs 5 (by omega)]
        refine c_minI ?_
        rw [nu_min (by omega) (by omega), gd_rI_at, nu_1]
        exact ih (i + 1) (min a (Hs H s 5)) hl2 (by omega) (by omega) he
    exact key L0 1 (Hs H s0 5) rfl (by rw [List.length_cons]; omega) (hW.V.five hs0) rfl
theorem k_find {r o : Nat} {O : List Nat} (hd : 5 ≤ d) (hR : cr_R v h H) (hW : hs_W H) (hO : cr_O v o O) (hOk : ord_ok O (Hh H 1)) (h1 : ∀ v' R, fr (fy [(8, r), (36, r), (37, r)]) v v' → rg_F H O R → cm_R v' r R.reverse → v'.1 8 r 2 = nI (rg_u H R.reverse) → Q (Sum.inl (some (zI 1))) v') (h0 : ∀ v', fr (fy [(8, r), (36, r), (37, r)]) v v' → (∀ R, ¬ rg_F H O R) → Q (Sum.inl (some (zI 0))) v') : gd_C g mX8_find d 0 0 [zR 8 r, zR 2 h, zR 5 o] v Q := by
  have h24 := hW.2.1
  have hl := hOk.1
  refine c_X8_find (by omega) (k_seeBuyers (Nat.le_refl 3) hR hW (fun v1 f1 b1 => ?_))
  rw [gd_rV_at]
  have wk : ∀ k i j, fy [(8, r), (36, r)] k i j → fy [(8, r), (36, r), (37, r)] k i j := fun k i j q => by
    rcases List.mem_cons.mp q with q | q
    · rw [Prod.mk.injEq] at q; rw [q.1, q.2]; exact fy_y 0 rfl
    · have q := List.mem_singleton.mp q
      rw [Prod.mk.injEq] at q; rw [q.1, q.2]; exact fy_y 1 rfl
  have key : ∀ (l A : List Nat) (u : gd_D), O = A ++ l → (∀ y ∈ A, ¬ rg_X H [y]) → fr (fy [(8, r), (36, r), (37, r)]) v u → cb_R u r H → gd_G g mX8_find d 0 0 7 [(0, zR 8 r), (1, zR 2 h), (2, zR 5 o), (3, zI (nI A.length))] [] u Q := by
    intro l
    induction l with
    | nil =>
      intro A u hA hn hfr hb
      have e : A = O := by rw [hA, List.append_nil]
      have hO' : cr_O u o O := ⟨by rw [hfr.I (fun _ => fy_n rfl)]; exact hO.1, fun j hj => by rw [hfr.I (fun _ => fy_n rfl)]; exact hO.2 j hj⟩
      exact w_X8_find_7 hd (pk_le O.length A.length (fun _ => h0 u hfr (rg_F_no (by rw [← e]; exact hn) (fun s hs => (hOk.2.1 s).mpr hs))) (fun q => absurd q (by rw [e]; omega)) hO'.1 rfl (by omega) (by rw [e]; omega))
    | cons s l ih =>
      intro A u hA hn hfr hb
      have hlen : A.length < O.length := by rw [hA, List.length_append]; simp
      have hs : s < Hh H 1 := (hOk.2.1 s).mp (by rw [hA]; exact List.mem_append.mpr (Or.inr List.mem_cons_self))
      have hO' : cr_O u o O := ⟨by rw [hfr.I (fun _ => fy_n rfl)]; exact hO.1, fun j hj => by rw [hfr.I (fun _ => fy_n rfl)]; exact hO.2 j hj⟩
      have hR' : cr_R u h H := hR.far hW hfr (fun _ _ => fy_n rfl) (fun _ _ => fy_n rfl) (fun _ _ => fy_n rfl) (fun _ _ => fy_n rfl)
      have eO : u.1 21 o A.length = nI s := by
        rw [hO'.2 A.length hlen, hA, getD_app_r (Nat.le_refl _), Nat.sub_self]; rfl
      have no : ∀ z : gd_D, fr (fy [(8, r), (36, r)]) u z → ¬ rg_X H [s] → gd_G g mX8_find d 0 0 7 [(0, zR 8 r), (1, zR 2 h), (2, zR 5 o), (3, zI (nI A.length + 1))] [] z Q := by
        intro z hz hno
        have := ih (A ++ [s]) z (by rw [List.append_assoc]; exact hA) (fun y hy => by
          rcases List.mem_append.mp hy with q | q
          · exact hn y q
          · rw [List.mem_singleton.mp q]; exact hno) (hfr.tr (hz.wk wk)) (fun a ha b hb2 => by rw [hz.I (fun _ => fy_n rfl)]; exact hb a ha b hb2)
        rw [List.length_append] at this
        rw [nu_1]; exact this
      refine w_X8_find_7 hd (pk_le O.length A.length (fun q => absurd q (by omega)) (fun _ => ⟨nu_in (by omega) (by omega), ?_⟩) hO'.1 rfl (by omega) (by omega))
      rw [nI_clamp (by omega), eO]
      refine k_isFit hR' hW hs ⟨fun hc => no u fr.rf (fun hX => ?_), fun hc => ?_⟩
      · have := hX.p.1.2
        rw [b2_0 hc] at this; cases this
      · refine k_follow (s0 := s) (Nat.le_refl 4) hR' hW hO' hOk hb hs (b2_1 hc) ⟨⟨A, l, hA, hn⟩, trivial⟩ (fun v3 R f3 hF hm3 => ?_) (fun v3 f3 hno => ?_)
        · rw [gd_rI_at]
          refine ⟨fun q => absurd q (by decide), fun _ => ?_⟩
          have hR3 : cr_R v3 h H := hR'.far hW f3 (fun _ _ => fy_n rfl) (fun _ _ => fy_n rfl) (fun _ _ => fy_n rfl) (fun _ _ => fy_n rfl)
          have hmem : ∀ x ∈ R.reverse, x < Hh H 1 ∧ rg_fit H x = true := fun x hx => hF.1.mem x (List.mem_reverse.mp hx)
          have hne : ¬ R.reverse = [] := by
            obtain ⟨a, b, e, _⟩ := hF.2.1
            rw [e, List.reverse_cons]; exact fun q => by simp at q
          have hlenR : R.reverse.length ≤ 8 := by rw [List.length_reverse]; exact hF.1.len hW.V
          refine k_leastOpen (Nat.le_refl 3) hR3 hW hm3 hlenR (fun x hx => (hmem x hx).1) hne ?_
          have hm1000 : rg_m H R.reverse ≤ 1000 := by
            cases e : R.reverse with
            | nil => exact absurd e hne
            | cons a b =>
              have ha : a ∈ R.reverse := by rw [e]; exact List.mem_cons_self
              exact Nat.le_trans (rg_m_le List.mem_cons_self) (hW.V.five (hmem a ha).1)
          refine k_lots (by omega) hR3 hW ?_
          rintro _ rfl
          have hpos := rg_u_pos hW.V hne (fun x hx => (hmem x hx).2)
          have eu : rg_m H R.reverse - rg_m H R.reverse % Hh H 5 = rg_u H R.reverse := rfl
          rw [eu, sI_at]
          refine pk_le (rg_u H R.reverse) 0 (fun q => absurd q (by omega)) (fun _ => ?_) rfl rfl (by unfold rg_u; omega) (by omega)
          refine h1 _ R ((hfr.tr (f3.wk wk)).tr (fr.sI (fy_y 0 rfl))) hF ⟨?_, fun j hj => ?_⟩ sI_at
          · rw [sI_ne (by omega)]; exact hm3.1
          · rw [sI_ne (by omega)]; exact hm3.2 j hj
        · rw [gd_rI_at]
          exact ⟨fun _ => no v3 f3 hno, fun q => absurd rfl q⟩
  exact key O [] v1 rfl (fun y hy => by cases hy) (f1.wk (fy_1 2 rfl)) b1
end CF
