/-! A BUY-IN, whole -/
theorem cl_col_put {G G' : Nat → Nat → Nat} {b s x : Nat} (h0 : G s b = 0) (h1 : G' s b = x) (hn : ∀ a, ¬ a = s → G' a b = G a b) : ∀ N, cl_col G' b N = cl_col G b N + if s < N then x else 0
  | 0 => rfl
  | N + 1 => by
    have ih := cl_col_put h0 h1 hn N
    show cl_col G' b N + G' N b = cl_col G b N + G N b + _
    by_cases e : N = s
    · subst e
      rw [if_neg (Nat.lt_irrefl N)] at ih
      rw [if_pos (Nat.lt_succ_self N), h0, h1]; omega
    · rw [hn N e]
      by_cases q : s < N
      · rw [if_pos q] at ih; rw [if_pos (by omega)]; omega
      · rw [if_neg q] at ih; rw [if_neg (by omega)]; omega
/-- units of part s, b -/
def pt_G (T : pt_T) : Nat → Nat → Nat := fun a b => pt_u (T.1 a) b
def pt_P (T : pt_T) : Nat → List Nat := fun s => (T.1 s).map Prod.fst
theorem pt_go_ok {H : hs_T} {O : List Nat} {N : Nat} (hOn : O.Nodup) (h5 : ∀ s, s < N → Hs H s 5 ≤ 1000) : ∀ (l : List Nat) (T : pt_T), l.Nodup → (∀ s ∈ l, s < N) → (∀ s ∈ l, T.1 s = []) → (∀ s, T.1 s = [] ∨ ∃ n f, n ≤ 1000 ∧ T.1 s = (pt_one H s O n f).1) → (∀ b, cl_col (pt_G T) b N + T.2.2 b = (pt_0 H).2.2 b) → (∀ s, (pt_go H O l T).1 s = [] ∨ ∃ n f, n ≤ 1000 ∧ (pt_go H O l T).1 s = (pt_one H s O n f).1) ∧ (∀ b, cl_col (pt_G (pt_go H O l T)) b N + (pt_go H O l T).2.2 b = (pt_0 H).2.2 b)
  | [], T, _, _, _, hA, hB => ⟨hA, hB⟩
  | s :: l, T, hn, hm, h0, hA, hB => by
    obtain ⟨hnot, hn2⟩ := List.nodup_cons.mp hn
    have hm' : ∀ x ∈ l, x < N := fun x hx => hm x (List.mem_cons_of_mem s hx)
    have h0' : ∀ x ∈ l, T.1 x = [] := fun x hx => h0 x (List.mem_cons_of_mem s hx)
    have hs := hm s List.mem_cons_self
    rw [pt_go_c]
    cases hq H s with
    | false => exact pt_go_ok hOn h5 l T hn2 hm' h0' hA hB
    | true =>
      rw [if_pos rfl]
      refine pt_go_ok hOn h5 l _ hn2 hm' (fun x hx => ?_) (fun x => ?_) (fun b => ?_)
      · show (if x = s then _ else T.1 x) = []
        rw [if_neg (fun q => hnot (by rw [← q]; exact hx))]; exact h0' x hx
      · show (if x = s then _ else T.1 x) = [] ∨ ∃ n f, n ≤ 1000 ∧ (if x = s then _ else T.1 x) = _
        by_cases e : x = s
        · subst e
          rw [if_pos rfl]
          exact Or.inr ⟨_, _, h5 x hs, rfl⟩
        · rw [if_neg e]; exact hA x
      · have e := cl_col_put (G := pt_G T) (G' := pt_G (pt_put T s (pt_one H s O (Hs H s 5) T.2.2))) (b := b) (s := s) (x := pt_u (pt_one H s O (Hs H s 5) T.2.2).1 b) (by show pt_u (T.1 s) b = 0; rw [h0 s List.mem_cons_self]; rfl) (by show pt_u (if s = s then _ else _) b = _; rw [if_pos rfl]) (fun a ha => by show pt_u (if a = s then _ else _) b = _; rw [if_neg ha]; rfl) N
        rw [if_pos hs] at e
        rw [e]
        have := pt_one_u (H := H) (s := s) (b := b) O (Hs H s 5) T.2.2 hOn
        have := hB b
        show cl_col (pt_G T) b N + pt_u (pt_one H s O (Hs H s 5) T.2.2).1 b + (pt_one H s O (Hs H s 5) T.2.2).2.2 b = _
        omega
/-- what is sure of an order -/
def ord_ok (O : List Nat) (N : Nat) : Prop := O.length = N ∧ (∀ s, s ∈ O ↔ s < N) ∧ O.Nodup
theorem hs_O_ok (H : hs_T) : ord_ok (hs_O H) (Hh H 1) := ⟨ord_L_len _ _, fun s => ord_L_mem _ _ _, ord_L_nd _ _⟩
theorem hs_V.five {H : hs_T} (hV : hs_V H) {s : Nat} (hs : s < Hh H 1) : Hs H s 5 ≤ 1000 := by
  have := hs_S5 (hV.2.2.2.2.2.2.2.2.1 s hs)
  have := (hV.2.2.2.2.2.2.2.2.1 s hs).2.2.2.1
  omega
theorem pt_all_ok {H : hs_T} {O : List Nat} (hV : hs_V H) (hO : ord_ok O (Hh H 1)) : (∀ s, pt_P (pt_all H O) s = O.filter (fun b => decide (0 < pt_G (pt_all H O) s b))) ∧ (∀ s b, pt_G (pt_all H O) s b ≤ 1000) ∧ (∀ b, cl_col (pt_G (pt_all H O)) b (Hh H 1) ≤ Hs H b 5) := by
  have c0 : ∀ b n, cl_col (pt_G (pt_0 H)) b n = 0 := by
    intro b n
    induction n with
    | zero => rfl
    | succ n ih => show cl_col (pt_G (pt_0 H)) b n + 0 = 0; rw [ih]
  obtain ⟨hA, hB⟩ := pt_go_ok (N := Hh H 1) hO.2.2 (fun s hs => hV.five hs) O (pt_0 H) hO.2.2 (fun s hs => (hO.2.1 s).mp hs) (fun s _ => rfl) (fun s => Or.inl rfl) (fun b => by rw [c0, Nat.zero_add])
  refine ⟨fun s => ?_, fun s b => ?_, fun b => ?_⟩
  · show ((pt_all H O).1 s).map Prod.fst = O.filter (fun b => decide (0 < pt_u ((pt_all H O).1 s) b))
    rcases hA s with e | ⟨n, f, hn, e⟩
    · have e' : (pt_all H O).1 s = [] := e
      rw [e']
      symm
      apply List.filter_eq_nil_iff.mpr
      intro x _ q
      exact absurd (of_decide_eq_true q) (Nat.lt_irrefl 0)
    · have e' : (pt_all H O).1 s = (pt_one H s O n f).1 := e
      rw [e']
      exact pt_one_filter O n f hO.2.2
  · show pt_u ((pt_all H O).1 s) b ≤ 1000
    rcases hA s with e | ⟨n, f, hn, e⟩
    · have e' : (pt_all H O).1 s = [] := e
      rw [e']; exact Nat.zero_le _
    · have e' : (pt_all H O).1 s = (pt_one H s O n f).1 := e
      rw [e']
      exact pt_u_le (fun p hp => by have := (pt_one_mem O n f p hp).2.2.2.2; omega)
  · have := hB b
    have : cl_col (pt_G (pt_all H O)) b (Hh H 1) ≤ (if hq H b then Hs H b 5 else 0) := Nat.le_trans (Nat.le_add_right _ _) (Nat.le_of_eq this)
    refine Nat.le_trans this ?_
    split
    · exact Nat.le_refl _
    · exact Nat.zero_le _
/-- the house behind a buy-in -/
def bn (H : hs_T) (O : List Nat) (s u : Nat) : hs_T := (cl_go (pt_P (pt_all H O)) 24 (fun _ => false) s u (h_buyo H s u, pt_G (pt_all H O))).1
theorem pt_c_all : ∀ n, pt_c (fun _ => 1) n = n
  | 0 => rfl
  | n + 1 => by show pt_c (fun _ => 1) n + 1 = n + 1; rw [pt_c_all n]
theorem bn_pre {H : hs_T} {O : List Nat} {s u : Nat} (hV : hs_V H) (hO : ord_ok O (Hh H 1)) : hs_V (h_buyo H s u) ∧ pt_c (fun x => if (fun _ => false) x then 0 else 1) (Hh H 1) ≤ 24 ∧ cl_I (Hh H 1) (cl_up (fun _ => false) s) (h_buyo H s u, pt_G (pt_all H O)) ∧ (∀ s, s < Hh H 1 → ∀ b ∈ pt_P (pt_all H O) s, b < Hh H 1) := by
  obtain ⟨p1, p2, p3⟩ := pt_all_ok hV hO
  refine ⟨hV.J rfl rfl rfl, ?_, fun b _ _ => p3 b, fun s _ b hb => ?_⟩
  · have := pt_c_all (Hh H 1)
    have := hV.2.1
    show pt_c (fun _ => 1) (Hh H 1) ≤ 24
    omega
  · rw [p1 s] at hb
    exact (hO.2.1 b).mp (List.mem_filter.mp hb).1
theorem bn_W {H : hs_T} {O : List Nat} {s u : Nat} (hW : hs_W H) (hO : ord_ok O (Hh H 1)) (hs : s < Hh H 1) (hu : u ≤ Hs H s 5) : hs_W (bn H O s u) ∧ Hh (bn H O s u) = Hh H := by
  obtain ⟨q1, q2, q3, q4⟩ := bn_pre (s := s) (u := u) hW.V hO
  have h1 := pt_c_0 (f := fun x => if (fun _ => false) x then 0 else 1) (f' := fun x => if cl_up (fun _ => false) s x then 0 else 1) (b := s) (fun z hz => by unfold cl_up; rw [decide_eq_false hz, Bool.or_false]) (show (0 : Nat) < 1 from by decide) hs
  rw [if_neg (by rw [cl_up_at]; decide)] at h1
  have hrec := cl_go_ok q4 23 (cl_up (fun _ => false) s) (by omega)
  have K0 : cl_K (Hh H 1) (h_buyo H s u, pt_G (pt_all H O)) (h_close (h_buyo H s u) s u, pt_G (pt_all H O)) := cl_K_close q1 hu
  have I0 : cl_I (Hh H 1) (cl_up (fun _ => false) s) (h_close (h_buyo H s u) s u, pt_G (pt_all H O)) := by
    intro c hc hcab
    have hcb : ¬ c = s := fun e => by rw [e, cl_up_at] at hcab; exact absurd hcab (by decide)
    show cl_col _ c _ ≤ Hs (h_close (h_buyo H s u) s u) c 5
    rw [h_close_n (by omega) (by omega)]
    exact q3 c hc hcab
  obtain ⟨K1, -⟩ := cl_loop_ok hs hrec (pt_P (pt_all H O) s) u (h_close (h_buyo H s u) s u, pt_G (pt_all H O)) (q4 s hs) K0.2.1 I0
  have K1' : cl_K (Hh H 1) (h_close (h_buyo H s u) s u, pt_G (pt_all H O)) (cl_go (pt_P (pt_all H O)) 24 (fun _ => false) s u (h_buyo H s u, pt_G (pt_all H O))) := K1
  have us : hs_used (h_close (h_buyo H s u) s u) (Hh H 1) = hs_used H (Hh H 1) + u := by
    rw [hs_used_J (H := h_go H s u 8) (H' := h_close (h_buyo H s u) s u) rfl]
    exact h_go_used (hs_S5 (hW.2.2.2.2.2.2.2.2.1 s hs)) hu (by omega) _ hs
  have hle := K1'.2.2.2.2.2.1 (Hh H 1)
  have hle2 : hs_used H (Hh H 1) + u ≤ hs_used (bn H O s u) (Hh H 1) := by rw [← us]; exact hle
  have hV := K1'.2.1
  have hH : Hh (bn H O s u) = Hh H := K1'.1
  have hD : (bn H O s u).2.1 = (h_buyo H s u).2.1 := K1'.2.2.2.2.1
  refine ⟨⟨hV.1, hV.2.1, hV.2.2.1, hV.2.2.2.1, hV.2.2.2.2.1, hV.2.2.2.2.2.1, hV.2.2.2.2.2.2.1, fun i hi => ?_, hV.2.2.2.2.2.2.2.2⟩, hH⟩
  have hi' : i < Hh H 0 := by rw [← hH]; exact hi
  have q := hW.2.2.2.2.2.2.2.1 i hi'
  rw [show Hh (bn H O s u) 1 = Hh H 1 from by rw [hH]]
  show (bn H O s u).2.1 i 0 ≤ _ ∧ (bn H O s u).2.1 i 5 ≤ _
  rw [hD]
  have e0 : Hd (h_buyo H s u) i 0 ≤ Hd H i 0 + u := by
    show Hd (hsD (hsD H (Hs H s 1) 0 (Hd H (Hs H s 1) 0 + u)) (Hs H s 1) 5 (Hd H (Hs H s 1) 5 + u)) i 0 ≤ _
    rw [hsD_ne (by omega)]
    by_cases e : i = Hs H s 1
    · subst e; rw [hsD_at]; exact Nat.le_refl _
    · rw [hsD_ne (by omega)]; omega
  have e5 : Hd (h_buyo H s u) i 5 ≤ Hd H i 5 + u := by
    show Hd (hsD (hsD H (Hs H s 1) 0 (Hd H (Hs H s 1) 0 + u)) (Hs H s 1) 5 (Hd H (Hs H s 1) 5 + u)) i 5 ≤ _
    by_cases e : i = Hs H s 1
    · subst e; rw [hsD_at]; exact Nat.le_refl _
    · rw [hsD_ne (by omega), hsD_ne (by omega)]; omega
  have e0' : (h_buyo H s u).2.1 i 0 ≤ Hd H i 0 + u := e0
  have e5' : (h_buyo H s u).2.1 i 5 ≤ Hd H i 5 + u := e5
  omega
theorem getD_fst : ∀ (l : List (Nat × Nat)) (j : Nat), (l.map Prod.fst).getD j 0 = (l.getD j (0, 0)).1
  | [], j => by cases j <;> rfl
  | p :: l, 0 => rfl
  | p :: l, j + 1 => by
    have := getD_fst l j
    simpa using this
theorem pt_u_at : ∀ (l : List (Nat × Nat)) (j : Nat), (l.map Prod.fst).Nodup → j < l.length → pt_u l (l.getD j (0, 0)).1 = (l.getD j (0, 0)).2
  | [], j, _, h => absurd h (Nat.not_lt_zero j)
  | p :: l, 0, _, _ => if_pos rfl
  | p :: l, j + 1, hn, h => by
    obtain ⟨h1, h2⟩ := List.nodup_cons.mp hn
    have ih := pt_u_at l j h2 (Nat.lt_of_succ_lt_succ h)
    have hg : (p :: l).getD (j + 1) (0, 0) = l.getD j (0, 0) := rfl
    rw [hg]
    show (if p.1 = (l.getD j (0, 0)).1 then p.2 else pt_u l (l.getD j (0, 0)).1) = _
    rw [if_neg, ih]
    intro e
    apply h1
    rw [e, ← getD_fst]
    have hj : j < (l.map Prod.fst).length := by rw [List.length_map]; exact Nat.lt_of_succ_lt_succ h
    rw [List.getD_eq_getElem?_getD, List.getElem?_eq_getElem hj]
    exact List.getElem_mem hj
section BI
variable {g : ab_E} {d : Nat} {v : gd_D} {Q : ab_O → gd_D → Prop} {H : hs_T} {h : Nat}
/-- cells of a house and of a parts object -/
def fb (h p k i j : Nat) : Prop := fh h k i j ∨ fy (fp p) k i j
theorem k_buyIn {p o s u : Nat} {O : List Nat} (hd : 41 ≤ d) (hR : cr_R v h H) (hW : hs_W H) (hO : cr_O v o O) (hOk : ord_ok O (Hh H 1)) (hs : s < Hh H 1) (hu : u ≤ Hs H s 5) (hQ : ∀ v', fr (fb h p) v v' → cr_R v' h (bn H O s u) → Q (Sum.inl none) v') : gd_C g mX6_buyIn d 0 0 [zR 6 p, zR 2 h, zR 5 o, zI (nI s), zI (nI u)] v Q := by
  obtain ⟨q1, q2, q3, q4⟩ := bn_pre (s := s) (u := u) hW.V hOk
  obtain ⟨p1, p2, p3⟩ := pt_all_ok hW.V hOk
  have h5 := hW.V.five hs
  refine c_X6_buyIn hd (k_stand (Nat.le_refl 4) hR hW hO hOk.1 (fun x hx => (hOk.2.1 x).mp hx) hOk.2.2 (fun v1 st f1 S1 _ => ?_))
  rw [gd_rV_at]
  have hR1 : cr_R v1 h H := hR.far hW f1 (fun _ _ => fy_n rfl) (fun _ _ => fy_n rfl) (fun _ _ => fy_n rfl) (fun _ _ => fy_n rfl)
  refine k_buyo hR1 hW hs (by omega) (fun v2 f2 R2 => ?_)
  rw [gd_rV_at]
  have nd : ∀ s, (pt_P (pt_all H O) s).Nodup := fun s => by rw [p1 s]; exact hOk.2.2.filter _
  have cc1 : cc_R v1 h p (Hh H 1) (pt_P (pt_all H O)) st (H, pt_G (pt_all H O)) := by
    refine ⟨hR1, fun a ha => ?_, fun a b ha hb hab => ?_⟩
    · obtain ⟨a1, a2, a3, a4⟩ := S1.1 a ha
      have el : (pt_P (pt_all H O) a).length = ((pt_all H O).1 a).length := List.length_map _
      rw [el]
      refine ⟨a1, a2, a3, fun j hj => ?_⟩
      obtain ⟨b1, b2, b3⟩ := a4 j hj
      have eg : (pt_P (pt_all H O) a).getD j 0 = (((pt_all H O).1 a).getD j (0, 0)).1 := getD_fst _ j
      rw [eg]
      refine ⟨b1, ?_⟩
      rw [b3]
      show _ = nI (pt_u ((pt_all H O).1 a) (((pt_all H O).1 a).getD j (0, 0)).1)
      rw [pt_u_at _ j (nd a) hj]
    · have := S1.2 a b ha hb hab
      show st a + ((((pt_all H O).1 a).map Prod.fst)).length ≤ st b ∨ st b + ((((pt_all H O).1 b).map Prod.fst)).length ≤ st a
      rw [List.length_map, List.length_map]; exact this
  refine k_closeDown hW.2.1 q4 (fun s _ => nd s) 24 (fun _ => false) 0 s u (h_buyo H s u, pt_G (pt_all H O)) v2 40 _ (by decide) (by decide) q2 (fun z _ => bt_0) hs rfl q1 rfl hu p2 q3 (cc1.h f2 R2) (fun v3 f3 R3 => ?_)
  rw [gd_rV_at]
  refine hQ v3 (((f1.wk (fun k i j q => Or.inr q)).tr (f2.wk (fun k i j q => Or.inl q))).tr (f3.wk (fun k i j q => ?_))) R3.1
  rcases q with q | ⟨rfl, rfl⟩
  · exact Or.inl q
  · exact Or.inr (fy_y 6 rfl)
theorem r_buysIn {s u : Nat} {O : List Nat} (hd : 41 ≤ d) (hR : rm_R (v.2.1 40 0) H) (hW : hs_W H) (hO : rm_O v O) (hOk : ord_ok O (Hh H 1)) (hab : ∀ z, z < 24 → v.1 55 0 z = 0) (hs : s < Hh H 1) (hu : u ≤ Hs H s 5) (hQ : ∀ v', fr (fx [40, 51, 52, 53, 54, 55]) v v' → rm_R (v'.2.1 40 0) (bn H O s u) → (∀ z, z < 24 → v'.1 55 0 z = 0) → Q (Sum.inl none) v') : gd_C g mX11_buysIn d 0 0 [zR 11 0, zI (nI s), zI (nI u)] v Q := by
  obtain ⟨q1, q2, q3, q4⟩ := bn_pre (s := s) (u := u) hW.V hOk
  obtain ⟨p1, p2, p3⟩ := pt_all_ok hW.V hOk
  have h5 := hW.V.five hs
  have h8 := hW.1
  have h24 := hW.2.1
  obtain ⟨s1, s2, s0, s3, s4, s5, s6⟩ := hW.2.2.2.2.2.2.2.2.1 s hs
  have hus := hW.used
  have hst := hW.2.2.2.2.2.2.2.1 _ s2
  refine c_X11_buysIn hd (r_laysParts (Nat.le_refl 4) hR hW hO hOk.1 (fun x hx => (hOk.2.1 x).mp hx) hOk.2.2 (fun x hx => (hOk.2.1 x).mpr hx) (fun v1 f1 S1 => ?_))
  rw [gd_rV_at]
  have R1 : rm_R (v1.2.1 40 0) H := by rw [f1.J (fun _ => fx_n rfl)]; exact hR
  refine r_of (w := 1) R1 hW hs (by decide) ?_
  show vp_in ((9 : Int32) + 6 * nI (Hs H s 1) + 0) 773 ∧ _
  rw [show ((9 : Int32) + 6 * nI (Hs H s 1) + 0) = nI (9 + 6 * Hs H s 1 + 0) from nu_d _ 0, show ((9 : Int32) + 6 * nI (Hs H s 1) + 5) = nI (9 + 6 * Hs H s 1 + 5) from nu_d _ 5, show ((9 : Int32) + 6 * nI (Hs H s 1) + 1) = nI (9 + 6 * Hs H s 1 + 1) from nu_d _ 1, nI_clamp (by omega), nI_clamp (by omega), nI_clamp (by omega), nu_l (by omega)]
  refine ⟨nu_in (by omega) (by omega), ?_⟩
  rintro _ rfl
  refine ⟨nu_in (by omega) (by omega), ?_⟩
  rintro _ rfl
  rw [(R1.2.2.2.1 _ s2).1, lN_add]
  have R2 := rm_sD (i := Hs H s 1) (j := 0) (x := Hd H (Hs H s 1) 0 + u) R1 h8 s2 (Or.inl rfl)
  rw [← sJ_row] at R2
  refine ⟨nu_in (by omega) (by omega), ?_⟩
  rintro _ rfl
  refine ⟨nu_in (by omega) (by omega), ?_⟩
  rintro _ rfl
  rw [(R2.2.2.2.1 _ s2).2.1, hsD_ne (by omega), lN_add]
  have R3 := rm_sD (i := Hs H s 1) (j := 5) (x := Hd H (Hs H s 1) 5 + u) R2 h8 s2 (Or.inr rfl)
  rw [← sJ_row] at R3
  refine ⟨nu_in (by omega) (by omega), ?_⟩
  rintro _ rfl
  refine ⟨nu_in (n := 3) (by decide) (by decide), ?_⟩
  rintro _ rfl
  refine ⟨nu_in (by omega) (by omega), ?_⟩
  rintro _ rfl
  rw [show ((3 : Int32)).toNatClampNeg = 3 from by decide, show ((8 : Int32)).toNatClampNeg = 8 from by decide]
  have m3 : _ = lN (Hh H 3) := R3.1 3 (by omega)
  have c3 : _ = Hj H (Hs H s 1) 1 := (R3.2.2.2.1 _ s2).2.2 1 (by omega) (by omega)
  rw [m3, c3, Int64.mul_comm (lN (Hh H 3)) (lN u)]
  have R4 := rm_sJ (i := Hs H s 1) (j := 1) (x := Hj H (Hs H s 1) 1 - lN u * lN (Hh H 3)) R3 h8 s2 (by omega) (by omega)
  rw [← sJ_row] at R4
  refine ⟨nu_in (n := 8) (by decide) (by decide), nu_in (n := 3) (by decide) (by decide), ?_⟩
  rintro _ rfl
  rintro _ rfl
  refine ⟨nu_in (n := 8) (by decide) (by decide), ?_⟩
  rintro _ rfl
  have m4 : _ = lN (Hh H 3) := R4.1 3 (by omega)
  have o4 : _ = Ho H := R4.2.2.1
  have R5 := rm_sO (x := Ho H + lN u * lN (Hh H 3)) R4
  rw [← sJ_row] at R5
  have hf5 : fr (fx [40, 51, 52, 53, 54, 55]) v (gd_sJ (gd_sJ (gd_sJ (gd_sJ v1 40 0 (9 + 6 * Hs H s 1 + 0) (lN (Hd H (Hs H s 1) 0 + u))) 40 0 (9 + 6 * Hs H s 1 + 5) (lN (Hd H (Hs H s 1) 5 + u))) 40 0 (9 + 6 * Hs H s 1 + 1) (Hj H (Hs H s 1) 1 - lN u * lN (Hh H 3))) 40 0 8 (Ho H + lN u * lN (Hh H 3))) := ((((f1.wk (fun k i j q => by
      have q : k ∈ [51, 52, 53, 54] := q
      show k ∈ [40, 51, 52, 53, 54, 55]
      simp only [List.mem_cons, List.not_mem_nil, or_false] at q ⊢
      omega)).tr (fr.sJ (fx_y rfl))).tr (fr.sJ (fx_y rfl))).tr (fr.sJ (fx_y rfl))).tr (fr.sJ (fx_y rfl))
  have go : ∀ z : gd_D, z = (gd_sJ (gd_sJ (gd_sJ (gd_sJ v1 40 0 (9 + 6 * Hs H s 1 + 0) (lN (Hd H (Hs H s 1) 0 + u))) 40 0 (9 + 6 * Hs H s 1 + 5) (lN (Hd H (Hs H s 1) 5 + u))) 40 0 (9 + 6 * Hs H s 1 + 1) (Hj H (Hs H s 1) 1 - lN u * lN (Hh H 3))) 40 0 8 (Ho H + lN u * lN (Hh H 3))) → gd_C g mX11_closes 40 0 0 [zR 11 0, zI (nI s), zI (nI u)] z (gd_rV (fun v15 => Q (Sum.inl none) v15) (fun E v9 => Q (Sum.inr E) v9)) := by
    rintro z rfl
    refine r_closes (N := Hh H 1) (S := pt_G (pt_all H O)) (P := pt_P (pt_all H O)) (O := O) h24 hOk.1 (fun x hx => (hOk.2.1 x).mp hx) (fun a b _ _ => p2 a b) (fun a _ => p1 a) 24 (fun _ => false) s u (h_buyo H s u, pt_G (pt_all H O)) _ 40 _ (by decide) q2 hs rfl q1 rfl hu q3 ⟨R5, fun j hj => ?_, fun a b ha hb => ⟨((S1 a ha).2 b hb).1, 0, ((S1 a ha).2 b hb).2, Nat.zero_add _⟩, fun z hz => ?_⟩ (fun v6 f6 R6 => ?_)
    · exact (hO.k f1 rfl) j hj
    · have : v1.1 55 0 z = 0 := by rw [f1.I (fun _ => fx_n rfl)]; exact hab z (by omega)
      exact this
    · rw [gd_rV_at]
      refine hQ v6 (hf5.tr (f6.wk (fun k i j q => by
        have q : k ∈ [40, 52, 55] := q
        show k ∈ [40, 51, 52, 53, 54, 55]
        simp only [List.mem_cons, List.not_mem_nil, or_false] at q ⊢
        omega))) R6.1 (fun z hz => R6.2.2.2 z hz)
  refine go _ ?_
  rw [m4, o4, Int64.mul_comm (lN (Hh H 3)) (lN u)]
end BI
