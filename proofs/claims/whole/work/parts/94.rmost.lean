/-! MOST: the reference's side -/
theorem fx_58 {v v' : gd_D} (h : fr (fx [58, 62]) v v') : fr fNe v v' := h.wk (fun k i j q => Or.inl (by
  have q : k ∈ [58, 62] := q
  simp only [List.mem_cons, List.not_mem_nil, or_false] at q
  omega))
section RG
variable {g : ab_E} {d : Nat} {v : gd_D} {Q : ab_O → gd_D → Prop} {H : hs_T} {b : Bool} {L : lpT} {n m : Nat} {f : Nat → Int}
theorem nr_R.via {v' : gd_D} {E : Nat} (h : nr_R v L m E f) (hf : fr (fx [58, 62]) v v') : nr_R v' L m E f := by
  have n1 : ∀ k, ¬ k = 58 → ¬ k = 62 → ∀ i j, ¬ fx [58, 62] k i j := fun k h1 h2 i j q => by
    have q : k ∈ [58, 62] := q
    simp only [List.mem_cons, List.not_mem_nil, or_false] at q
    omega
  refine ⟨by rw [hf.I (n1 11 (by omega) (by omega) 0)]; exact h.1, fun e he => ?_⟩
  rw [hf.I (n1 56 (by omega) (by omega) 0), hf.I (n1 57 (by omega) (by omega) 0), hf.J (n1 59 (by omega) (by omega) 0), hf.J (n1 60 (by omega) (by omega) 0), hf.J (n1 61 (by omega) (by omega) 0)]
  exact h.2 e he
/-- is a ring that gains found -/
theorem r_gaining (hd : 3 ≤ d) (hK : lp_K L n m) (hF : ne_Fl L n m f) (hN : nr_R v L m (m + 2 * n) f)
    (h0 : ∀ v' D, fr (fx [58, 62]) v v' → (∀ w, D w < 1) → (∀ a, a < 2 * (m + 2 * n) → bf_sat (ne_N L m f) 1 D a) → Q (Sum.inl (some (zI (-1)))) v')
    (h1 : ∀ v' D P t z a l, fr (fx [58, 62]) v v' → z < 9 → (∀ w, w < 9 → v'.1 58 0 w = rc_c (P w)) → ne_P L n m f D P t → ne_W (ne_N L m f) P z z (a :: l) → ((a :: l).map (bH (ne_N L m f))).Nodup → Q (Sum.inl (some (zI (nI z)))) v') :
    gd_C g mX11_gaining d 0 0 [zR 11 0] v Q := by
  have h8 := hK.1
  have h24 := hK.2.1
  have back : ∀ j a2 u D P rd t T w w0 l0, a2 + j = 9 → fr (fx [58, 62]) v u → nv_R u D P → ng_I L n m f D P rd t T 10 (2 * (m + 2 * n)) → w < 9 → 10 ≤ rd w + a2 → ne_W (ne_N L m f) P w w0 l0 → l0.length = a2 → gd_G g mX11_gaining d 0 0 111 [(0, zR 11 0), (1, zI (nI w)), (2, zI (nI a2))] [] u Q := by
    intro j
    induction j with
    | zero =>
      intro a2 u D P rd t T w w0 l0 ha hf hv hb hw hrd hl0 hlen
      have e : a2 = 9 := by omega
      subst e
      refine w_X11_gaining_111 (by omega) (pk_le 9 9 (fun _ => ?_) (fun q => absurd q (by omega)) rfl rfl (by omega) (by omega))
      have hH : ∀ w a, P w = some a → bH (ne_N L m f) a = w := fun w a q => (hb.1.1 w a q).2.2.1
      have h9 : ∀ w a, P w = some a → bH (ne_N L m f) a < 9 := fun w a q => (ne_arc hK (hb.1.1 w a q).1).2.1
      obtain ⟨a, l', r1, r2⟩ := ne_ring hH h9 hl0 hlen hw
      exact h1 u D P t w a l' hf hw (fun w' hw' => (hv w' hw').2) (fun w a q => by
        obtain ⟨b1, b2, b3, b4, b5, b6, b7, b8⟩ := hb.1.1 w a q
        exact ⟨b1, b2, b3, b5, b6⟩) r1 r2
    | succ j ih =>
      intro a2 u D P rd t T w w0 l0 ha hf hv hb hw hrd hl0 hlen
      refine w_X11_gaining_111 (by omega) (pk_le 9 a2 (fun q => absurd q (by omega)) (fun _ => ?_) rfl rfl (by omega) (by omega))
      cases e : P w with
      | none => have := (hb.1.2.1 w e).1; omega
      | some a =>
        obtain ⟨b1, b2, b3, b4, b5, b6, b7, b8⟩ := hb.1.1 w a e
        refine r_behindOf hK (hN.via hf) hw (by rw [(hv w hw).2, e]) b1 ?_
        rw [gd_rI_at, nu_1]
        refine ih (a2 + 1) u D P rd t T (bT (ne_N L m f) a) w0 (l0 ++ [a]) (by omega) hf hv hb (ne_arc hK b1).1 (by omega) ?_ (by rw [List.length_append, hlen]; rfl)
        have app : ∀ (l : List Nat) (y : Nat), ne_W (ne_N L m f) P w y l → ne_W (ne_N L m f) P (bT (ne_N L m f) a) y (l ++ [a]) := by
          intro l
          induction l with
          | nil => intro y hy; have hy : y = w := hy; subst hy; exact ⟨e, rfl⟩
          | cons c l ihl => intro y hy; exact ⟨hy.1, ihl _ hy.2⟩
        exact app l0 w0 hl0
  have rounds : ∀ j a2 u D P rd t T (c : Int32), a2 + j = 9 → fr (fx [58, 62]) v u → nv_R u D P → ng_I L n m f D P rd t T (a2 + 1) 0 → (∀ w, rd w < a2 + 1) → gd_G g mX11_gaining d 0 0 32 [(0, zR 11 0), (1, zI c), (2, zI (nI a2))] [] u Q := by
    intro j
    induction j with
    | zero =>
      intro a2 u D P rd t T c ha hf hv hb hrd
      have e : a2 = 9 := by omega
      subst e
      refine w_X11_gaining_32 (by omega) (pk_lt 9 9 (fun q => absurd q (by omega)) (fun _ => ?_) rfl rfl (by omega) (by omega))
      have scan : ∀ k e u D P rd t T (o : Option Nat), e + k = m + 2 * n → fr (fx [58, 62]) v u → nv_R u D P → ng_I L n m f D P rd t T 10 (2 * e) → (o = none → ∀ w, rd w ≠ 10) → (∀ w, o = some w → w < 9 ∧ rd w = 10) → gd_G g mX11_gaining d 0 0 42 [(0, zR 11 0), (1, zI (oi o)), (2, zI (nI 9)), (3, zI (nI e))] [] u Q := by
        intro k
        induction k with
        | zero =>
          intro e u D P rd t T o he hf hv hb f0 f1
          have e1 : e = m + 2 * n := by omega
          subst e1
          refine w_X11_gaining_42 (by omega) (pk_le (m + 2 * n) (m + 2 * n) (fun _ => ?_) (fun q => absurd q (Nat.lt_irrefl _)) (hN.via hf).1 rfl (by omega) (by omega))
          cases o with
          | none => exact ⟨fun q => absurd rfl q, fun _ => h0 u D hf (fun w => by have : D w ≤ 0 := (hb.1.2.2.1 w).2.2; omega) (bf_end hb.1 (f0 rfl))⟩
          | some w =>
            obtain ⟨w1, w2⟩ := f1 w rfl
            refine ⟨fun _ => ?_, fun q => absurd q (nu_m1 (by omega))⟩
            rw [nu_1]
            exact w_X11_gaining_32 (by omega) (pk_lt 9 10 (fun _ => back 9 0 u D P rd t T w w [] (by omega) hf hv hb w1 (by omega) rfl rfl) (fun q => absurd q (by omega)) rfl rfl (by omega) (by omega))
        | succ k ih =>
          intro e u D P rd t T o he hf hv hb f0 f1
          have hlt : e < m + 2 * n := by omega
          obtain ⟨k1, k2, _⟩ := ne_ok hK hlt
          refine w_X11_gaining_42 (by omega) (pk_le (m + 2 * n) e (fun q => absurd q (by omega)) (fun _ => ?_) (hN.via hf).1 rfl (by omega) (by omega))
          have second : ∀ u D P rd t T (o : Option Nat), fr (fx [58, 62]) v u → nv_R u D P → ng_I L n m f D P rd t T 10 (2 * e + 1) → (o = none → ∀ w, rd w ≠ 10) → (∀ w, o = some w → w < 9 ∧ rd w = 10) → wp_X11_gaining_70 g d (oi o) (nI 9) (nI e) u Q := by
            intro u D P rd t T o hf hv hb f0 f1
            unfold wp_X11_gaining_70
            refine r_relaxes (Or.inr ⟨rfl, rfl⟩) hK hlt (by omega) hF (hN.via hf) hv hb (fun hb' => ?_) (fun v' D' P' rd' t' T' f' v2 hb' hr => ?_)
            · rw [gd_rI_at, nu_1]
              exact ⟨fun _ => ih (e + 1) u D P rd t T o (by omega) hf hv hb' f0 f1, fun q => absurd rfl q⟩
            · rw [gd_rI_at, nu_1, nI_clamp (n := e) (by omega), ((hN.via (hf.tr f')).2 e hlt).1]
              rw [(ne_o e).2.1] at hr
              exact ⟨fun q => absurd q (by decide), fun _ => ⟨nu_in (by omega) (by omega), ih (e + 1) v' D' P' rd' t' T' (some (ne_F L m e)) (by omega) (hf.tr f') v2 hb' (fun q => by cases q) (fun w q => by cases q; exact ⟨k1, hr⟩)⟩⟩
          refine r_relaxes (Or.inl ⟨rfl, rfl⟩) hK hlt (by omega) hF (hN.via hf) hv hb (fun hb' => ?_) (fun v' D' P' rd' t' T' f' v2 hb' hr => ?_)
          · rw [gd_rI_at]
            exact ⟨fun _ => second u D P rd t T o hf hv hb' f0 f1, fun q => absurd rfl q⟩
          · rw [gd_rI_at, nI_clamp (n := e) (by omega), ((hN.via (hf.tr f')).2 e hlt).2.1]
            rw [(ne_e e).2.1] at hr
            exact ⟨fun q => absurd q (by decide), fun _ => ⟨nu_in (by omega) (by omega), second v' D' P' rd' t' T' (some (ne_T L m e)) (hf.tr f') v2 hb' (fun q => by cases q) (fun w q => by cases q; exact ⟨k2, hr⟩)⟩⟩
      exact scan (m + 2 * n) 0 u D P rd t T none (by omega) hf hv hb (fun _ w => by have := hrd w; omega) (fun w q => by cases q)
    | succ j ihj =>
      intro a2 u D P rd t T c ha hf hv hb hrd
      refine w_X11_gaining_32 (by omega) (pk_lt 9 a2 (fun q => absurd q (by omega)) (fun _ => ?_) rfl rfl (by omega) (by omega))
      have scan : ∀ k e u D P rd t T (o : Option Nat), e + k = m + 2 * n → fr (fx [58, 62]) v u → nv_R u D P → ng_I L n m f D P rd t T (a2 + 1) (2 * e) → (o = none → ∀ w, rd w ≠ a2 + 1) → (∀ w, o = some w → w < 9 ∧ rd w = a2 + 1) → gd_G g mX11_gaining d 0 0 42 [(0, zR 11 0), (1, zI (oi o)), (2, zI (nI a2)), (3, zI (nI e))] [] u Q := by
        intro k
        induction k with
        | zero =>
          intro e u D P rd t T o he hf hv hb f0 f1
          have e1 : e = m + 2 * n := by omega
          subst e1
          refine w_X11_gaining_42 (by omega) (pk_le (m + 2 * n) (m + 2 * n) (fun _ => ?_) (fun q => absurd q (Nat.lt_irrefl _)) (hN.via hf).1 rfl (by omega) (by omega))
          cases o with
          | none => exact ⟨fun q => absurd rfl q, fun _ => h0 u D hf (fun w => by have : D w ≤ 0 := (hb.1.2.2.1 w).2.2; omega) (bf_end hb.1 (f0 rfl))⟩
          | some w =>
            obtain ⟨w1, w2⟩ := f1 w rfl
            refine ⟨fun _ => ?_, fun q => absurd q (nu_m1 (by omega))⟩
            rw [nu_1]
            exact ihj (a2 + 1) u D P rd t T _ (by omega) hf hv ⟨bf_next hb.1, hb.2.1, by have := hb.2.2; omega⟩ (fun w => by have := (hb.1.2.2.1 w).2.1; omega)
        | succ k ih =>
          intro e u D P rd t T o he hf hv hb f0 f1
          have hlt : e < m + 2 * n := by omega
          obtain ⟨k1, k2, _⟩ := ne_ok hK hlt
          refine w_X11_gaining_42 (by omega) (pk_le (m + 2 * n) e (fun q => absurd q (by omega)) (fun _ => ?_) (hN.via hf).1 rfl (by omega) (by omega))
          have second : ∀ u D P rd t T (o : Option Nat), fr (fx [58, 62]) v u → nv_R u D P → ng_I L n m f D P rd t T (a2 + 1) (2 * e + 1) → (o = none → ∀ w, rd w ≠ a2 + 1) → (∀ w, o = some w → w < 9 ∧ rd w = a2 + 1) → wp_X11_gaining_70 g d (oi o) (nI a2) (nI e) u Q := by
            intro u D P rd t T o hf hv hb f0 f1
            unfold wp_X11_gaining_70
            refine r_relaxes (Or.inr ⟨rfl, rfl⟩) hK hlt (by omega) hF (hN.via hf) hv hb (fun hb' => ?_) (fun v' D' P' rd' t' T' f' v2 hb' hr => ?_)
            · rw [gd_rI_at, nu_1]
              exact ⟨fun _ => ih (e + 1) u D P rd t T o (by omega) hf hv hb' f0 f1, fun q => absurd rfl q⟩
            · rw [gd_rI_at, nu_1, nI_clamp (n := e) (by omega), ((hN.via (hf.tr f')).2 e hlt).1]
              rw [(ne_o e).2.1] at hr
              exact ⟨fun q => absurd q (by decide), fun _ => ⟨nu_in (by omega) (by omega), ih (e + 1) v' D' P' rd' t' T' (some (ne_F L m e)) (by omega) (hf.tr f') v2 hb' (fun q => by cases q) (fun w q => by cases q; exact ⟨k1, hr⟩)⟩⟩
          refine r_relaxes (Or.inl ⟨rfl, rfl⟩) hK hlt (by omega) hF (hN.via hf) hv hb (fun hb' => ?_) (fun v' D' P' rd' t' T' f' v2 hb' hr => ?_)
          · rw [gd_rI_at]
            exact ⟨fun _ => second u D P rd t T o hf hv hb' f0 f1, fun q => absurd rfl q⟩
          · rw [gd_rI_at, nI_clamp (n := e) (by omega), ((hN.via (hf.tr f')).2 e hlt).2.1]
            rw [(ne_e e).2.1] at hr
            exact ⟨fun q => absurd q (by decide), fun _ => ⟨nu_in (by omega) (by omega), second v' D' P' rd' t' T' (some (ne_T L m e)) (hf.tr f') v2 hb' (fun q => by cases q) (fun w q => by cases q; exact ⟨k2, hr⟩)⟩⟩
      exact scan (m + 2 * n) 0 u D P rd t T none (by omega) hf hv hb (fun _ w => by have := hrd w; omega) (fun w q => by cases q)
  have init : ∀ k i u, i + k = 9 → fr (fx [58, 62]) v u → (∀ w, w < i → (u.2.1 62 0 w).toInt = 0 ∧ u.1 58 0 w = 0) → gd_G g mX11_gaining d 0 0 2 [(0, zR 11 0), (1, zI (nI i))] [] u Q := by
    intro k
    induction k with
    | zero =>
      intro i u hi hf hw
      have e : i = 9 := by omega
      subst e
      exact w_X11_gaining_2 (by omega) (pk_le 9 9 (fun _ => rounds 9 0 u (fun _ => 0) (fun _ => none) _ _ _ _ (by omega) hf (fun w hw' => hw w hw') ⟨bf_zero, fun _ => by show -(10000 * ((0 : Nat) : Int)) ≤ 0; omega, by omega⟩ (fun _ => by show (0 : Nat) < 0 + 1; omega)) (fun q => absurd q (by omega)) rfl rfl (by omega) (by omega))
    | succ k ih =>
      intro i u hi hf hw
      refine w_X11_gaining_2 (by omega) (pk_le 9 i (fun q => absurd q (by omega)) (fun _ => ⟨nu_in (by omega) (by omega), ?_⟩) rfl rfl (by omega) (by omega))
      rw [nI_clamp (n := i) (by omega), nu_1]
      rintro _ rfl
      refine ⟨nu_in (by omega) (by omega), ?_⟩
      rintro _ rfl
      refine ih (i + 1) _ (by omega) (hf.tr ((fr.sJ (show 62 ∈ [58, 62] by decide)).tr (fr.sI (show 58 ∈ [58, 62] by decide)))) (fun w hw' => ?_)
      by_cases c : w = i
      · subst c
        refine ⟨?_, sI_at⟩
        show ((gd_sJ u 62 0 w 0).2.1 62 0 w).toInt = 0
        rw [sJ_at]; rfl
      · rw [sI_ne (by omega)]
        show ((gd_sJ u 62 0 i 0).2.1 62 0 w).toInt = 0 ∧ u.1 58 0 w = 0
        rw [sJ_ne (by omega)]
        exact hw w (by omega)
  exact c_X11_gaining (Nat.zero_le _) (init 9 0 v (by omega) fr.rf (fun w hw => absurd hw (by omega)))
end RG
