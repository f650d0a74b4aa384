/-! MOST: going round, summed, the reference's side -/
section RT
variable {g : ab_E} {d : Nat} {v : gd_D} {Q : ab_O → gd_D → Prop} {H : hs_T} {b : Bool} {L : lpT} {n m : Nat} {f D : Nat → Int} {P : Nat → Option Nat} {t : Nat → Nat}
theorem nr_R.fl {v' : gd_D} {E : Nat} {y : Nat → Int} (h : nr_R v L m E f) (hf : fr (fx [60]) v v') (h60 : ∀ e, e < E → (v'.2.1 60 0 e).toInt = y e) : nr_R v' L m E y := by
  have n1 : ∀ k, ¬ k = 60 → ∀ i j, ¬ fx [60] k i j := fun k h1 i j q => by
    have q : k ∈ [60] := q
    simp only [List.mem_cons, List.not_mem_nil, or_false] at q
    omega
  refine ⟨by rw [hf.I (n1 11 (by omega) 0)]; exact h.1, fun e he => ?_⟩
  rw [hf.I (n1 56 (by omega) 0), hf.I (n1 57 (by omega) 0), hf.J (n1 59 (by omega) 0), hf.J (n1 61 (by omega) 0)]
  obtain ⟨a1, a2, a3, a4, a5⟩ := h.2 e he
  exact ⟨a1, a2, a3, h60 e he, a5⟩
theorem r_goesRound {z a : Nat} {l : List Nat} (hd : 3 ≤ d) (hK : lp_K L n m) (hF : ne_Fl L n m f) (hN : nr_R v L m (m + 2 * n) f) (hz : z < 9) (hv : ∀ w, w < 9 → v.1 58 0 w = rc_c (P w)) (hP : ne_P L n m f D P t) (hr : ne_W (ne_N L m f) P z z (a :: l)) (hn : ((a :: l).map (bH (ne_N L m f))).Nodup)
    (hQ : ∀ v' u, fr (fx [60]) v v' → 0 < u → (∀ a' ∈ a :: l, u ≤ ne_r L m f a') → nr_R v' L m (m + 2 * n) (ne_p u (a :: l) f) → Q (Sum.inl none) v') :
    gd_C g mX11_goesRound d 0 0 [zR 11 0, zI (nI z)] v Q := by
  have h8 := hK.1
  have h24 := hK.2.1
  have n58 : ∀ i j, ¬ fx [60] 58 i j := fun i j q => by
    have q : 58 ∈ [60] := q
    simp only [List.mem_cons, List.not_mem_nil, or_false] at q
    omega
  have nh := ne_nd hP (a :: l) z hr hn
  -- the second time round: the flow
  have second : ∀ (u : Int64) (q : List Nat) (w c : Nat) (y : Nat → Int) (s : gd_D), 0 < u.toInt → u.toInt ≤ 1000000000 → fr (fx [60]) v s → nr_R s L m (m + 2 * n) y → w < 9 → ne_W (ne_N L m f) P z w (c :: q) → z ∉ q.map (bH (ne_N L m f)) → ((c :: q).map (fun a => a / 2)).Nodup → (∀ a' ∈ c :: q, y (a' / 2) = f (a' / 2)) → (∀ v', fr (fx [60]) v v' → nr_R v' L m (m + 2 * n) (ne_p u.toInt (c :: q) y) → Q (Sum.inl none) v') → gd_G g mX11_goesRound d 0 0 72 [(0, zR 11 0), (1, zI (nI z)), (2, zJ u), (4, zI (nI w))] [] s Q := by
    intro u q
    induction q with
    | nil =>
      intro w c y s hu0 hu1 hf hNs hw hp hzn hnd hyf hq
      obtain ⟨b1, b2, b3, b4, b5⟩ := hP w c hp.1
      have e58 : s.1 58 0 w = rc_c (some c) := by rw [hf.I (n58 0), hv w hw, hp.1]
      have he : c / 2 < m + 2 * n := by omega
      obtain ⟨n1, n2, n3, n4, n5⟩ := hNs.2 (c / 2) he
      obtain ⟨d1, d2, d3, d4⟩ := rc_d (c / 2) (by omega)
      have ey := hyf c List.mem_cons_self
      obtain ⟨f1, f2⟩ := hF.1 (c / 2) he
      obtain ⟨k1, k2, k3, k4, k5, _⟩ := ne_ok hK he
      have hlast : bT (ne_N L m f) c = z := hp.2
      have key : ∀ x : Int64, x.toInt = y (c / 2) + ne_g c * u.toInt → wp_X11_goesRound_116 g d (nI z) u (nI w) (gd_sJ s 60 0 (c / 2) x) Q := by
        intro x hx
        have N2 : nr_R (gd_sJ s 60 0 (c / 2) x) L m (m + 2 * n) (up y (c / 2) (y (c / 2) + ne_g c * u.toInt)) := hNs.fl (fr.sJ (show 60 ∈ [60] by decide)) (fun e he' => by
          by_cases ce : e = c / 2
          · subst ce; rw [sJ_at, up_at]; exact hx
          · rw [sJ_ne (by omega), up_ne _ _ ce]; exact (hNs.2 e he').2.2.2.1)
        unfold wp_X11_goesRound_116
        refine r_behindOf (f := up y (c / 2) (y (c / 2) + ne_g c * u.toInt)) hK N2 hw e58 b1 ?_
        rw [gd_rI_at]
        have eb : bT (ne_N L m (up y (c / 2) (y (c / 2) + ne_g c * u.toInt))) c = bT (ne_N L m f) c := rfl
        rw [eb, hlast]
        exact ⟨fun q => absurd rfl q, fun _ => hq _ (hf.tr (fr.sJ (show 60 ∈ [60] by decide))) N2⟩
      refine w_X11_goesRound_72 (by omega) ?_
      unfold wp_X11_goesRound_72
      rw [nI_clamp (n := w) (by omega), e58]
      refine ⟨nu_in (by omega) (by omega), ?_⟩
      by_cases c2 : c % 2 = 0
      · have e1 : rc_c (some c) = nI (c / 2) + 1 := if_pos c2
        rw [e1, d3, nI_clamp (n := c / 2) (by omega)]
        refine ⟨fun q => absurd q d4, fun _ => ⟨nu_in (by omega) (by omega), ?_⟩⟩
        rintro _ rfl
        refine ⟨nu_in (by omega) (by omega), ?_⟩
        rintro _ rfl
        refine key _ ?_
        rw [jw_add n4 rfl (by omega) (by omega), show ne_g c = 1 from if_pos c2]; omega
      · have e1 : rc_c (some c) = -(nI (c / 2)) - 1 := if_neg c2
        rw [e1, d1, nI_clamp (n := c / 2) (by omega)]
        refine ⟨fun _ => ⟨nu_in (by omega) (by omega), ?_⟩, fun q => absurd d2 q⟩
        rintro _ rfl
        refine ⟨nu_in (by omega) (by omega), ?_⟩
        rintro _ rfl
        refine key _ ?_
        rw [jw_sub n4 rfl (by omega) (by omega), show ne_g c = -1 from if_neg c2]; omega
    | cons c' q ih =>
      intro w c y s hu0 hu1 hf hNs hw hp hzn hnd hyf hq
      obtain ⟨nd1, nd2⟩ := List.nodup_cons.mp hnd
      obtain ⟨b1, b2, b3, b4, b5⟩ := hP w c hp.1
      have e58 : s.1 58 0 w = rc_c (some c) := by rw [hf.I (n58 0), hv w hw, hp.1]
      have he : c / 2 < m + 2 * n := by omega
      obtain ⟨n1, n2, n3, n4, n5⟩ := hNs.2 (c / 2) he
      obtain ⟨d1, d2, d3, d4⟩ := rc_d (c / 2) (by omega)
      have ey := hyf c List.mem_cons_self
      obtain ⟨f1, f2⟩ := hF.1 (c / 2) he
      obtain ⟨k1, k2, k3, k4, k5, _⟩ := ne_ok hK he
      have hbt := (ne_arc (f := f) hK b1).1
      have hnext : bT (ne_N L m f) c ≠ z := fun q => hzn (List.mem_map.mpr ⟨c', List.mem_cons_self, by rw [(hP _ c' hp.2.1).2.2.1]; exact q⟩)
      have key : ∀ x : Int64, x.toInt = y (c / 2) + ne_g c * u.toInt → wp_X11_goesRound_116 g d (nI z) u (nI w) (gd_sJ s 60 0 (c / 2) x) Q := by
        intro x hx
        have N2 : nr_R (gd_sJ s 60 0 (c / 2) x) L m (m + 2 * n) (up y (c / 2) (y (c / 2) + ne_g c * u.toInt)) := hNs.fl (fr.sJ (show 60 ∈ [60] by decide)) (fun e he' => by
          by_cases ce : e = c / 2
          · subst ce; rw [sJ_at, up_at]; exact hx
          · rw [sJ_ne (by omega), up_ne _ _ ce]; exact (hNs.2 e he').2.2.2.1)
        unfold wp_X11_goesRound_116
        refine r_behindOf (f := up y (c / 2) (y (c / 2) + ne_g c * u.toInt)) hK N2 hw e58 b1 ?_
        rw [gd_rI_at]
        have eb : bT (ne_N L m (up y (c / 2) (y (c / 2) + ne_g c * u.toInt))) c = bT (ne_N L m f) c := rfl
        rw [eb]
        refine ⟨fun _ => ?_, fun q => absurd (nu_inj (by omega) (by omega) q) hnext⟩
        refine ih (bT (ne_N L m f) c) c' _ _ hu0 hu1 (hf.tr (fr.sJ (show 60 ∈ [60] by decide))) N2 hbt hp.2 (fun h => hzn (List.mem_cons_of_mem _ h)) nd2 (fun a' ha' => ?_) (fun v' f' N' => hq v' f' N')
        rw [up_ne _ _ (fun q => nd1 (List.mem_map.mpr ⟨a', ha', q⟩))]
        exact hyf a' (List.mem_cons_of_mem _ ha')
      refine w_X11_goesRound_72 (by omega) ?_
      unfold wp_X11_goesRound_72
      rw [nI_clamp (n := w) (by omega), e58]
      refine ⟨nu_in (by omega) (by omega), ?_⟩
      by_cases c2 : c % 2 = 0
      · have e1 : rc_c (some c) = nI (c / 2) + 1 := if_pos c2
        rw [e1, d3, nI_clamp (n := c / 2) (by omega)]
        refine ⟨fun q => absurd q d4, fun _ => ⟨nu_in (by omega) (by omega), ?_⟩⟩
        rintro _ rfl
        refine ⟨nu_in (by omega) (by omega), ?_⟩
        rintro _ rfl
        refine key _ ?_
        rw [jw_add n4 rfl (by omega) (by omega), show ne_g c = 1 from if_pos c2]; omega
      · have e1 : rc_c (some c) = -(nI (c / 2)) - 1 := if_neg c2
        rw [e1, d1, nI_clamp (n := c / 2) (by omega)]
        refine ⟨fun _ => ⟨nu_in (by omega) (by omega), ?_⟩, fun q => absurd d2 q⟩
        rintro _ rfl
        refine ⟨nu_in (by omega) (by omega), ?_⟩
        rintro _ rfl
        refine key _ ?_
        rw [jw_sub n4 rfl (by omega) (by omega), show ne_g c = -1 from if_neg c2]; omega
  -- the first time round: how much
  have first : ∀ (q : List Nat) (w c : Nat) (am : Int64), 0 < am.toInt → w < 9 → ne_W (ne_N L m f) P z w (c :: q) → z ∉ q.map (bH (ne_N L m f)) → (∀ u : Int64, 0 < u.toInt → u.toInt ≤ am.toInt → u.toInt ≤ 1000000000 → (∀ a' ∈ c :: q, u.toInt ≤ ne_r L m f a') → gd_G g mX11_goesRound d 0 0 72 [(0, zR 11 0), (1, zI (nI z)), (2, zJ u), (4, zI (nI z))] [] v Q) → gd_G g mX11_goesRound d 0 0 7 [(0, zR 11 0), (1, zI (nI z)), (2, zJ am), (4, zI (nI w))] [] v Q := by
    intro q
    induction q with
    | nil =>
      intro w c am ham hw hp hzn K
      obtain ⟨b1, b2, b3, b4, b5⟩ := hP w c hp.1
      have e58 : v.1 58 0 w = rc_c (some c) := by rw [hv w hw, hp.1]
      have he : c / 2 < m + 2 * n := by omega
      obtain ⟨n1, n2, n3, n4, n5⟩ := hN.2 (c / 2) he
      obtain ⟨d1, d2, d3, d4⟩ := rc_d (c / 2) (by omega)
      obtain ⟨f1, f2⟩ := hF.1 (c / 2) he
      obtain ⟨k1, k2, k3, k4, k5, _⟩ := ne_ok hK he
      have hlast : bT (ne_N L m f) c = z := hp.2
      have rpos : 0 < ne_r L m f c ∧ ne_r L m f c ≤ 1000000000 := by
        rcases mo_2 c with ⟨i, ec⟩ | ⟨i, ec⟩
        · have ei : c / 2 = i := by omega
          rw [ec] at b2
          have := (ne_e i).2.2.2.mp b2
          rw [ei] at f1 f2 k4 k5
          unfold ne_r; rw [if_pos (by omega), ei]; omega
        · have ei : c / 2 = i := by omega
          rw [ec] at b2
          have := (ne_o i).2.2.2.mp b2
          rw [ei] at f1 f2 k4 k5
          unfold ne_r; rw [if_neg (by omega), ei]; omega
      have key : ∀ x : Int64, x.toInt = ne_r L m f c → wp_X11_goesRound_54 g d (nI z) (nI w) am x v Q := by
        intro x hx
        unfold wp_X11_goesRound_54
        obtain ⟨m1, m2, m3⟩ := jw_min (x := am) (y := x)
        refine c_minJ ?_
        rw [gd_rJ_at]
        refine r_behindOf hK hN hw e58 b1 ?_
        rw [gd_rI_at, hlast]
        refine ⟨fun q => absurd rfl q, fun _ => K _ (m3 ham (by omega)) m1 (by omega) (fun a' ha' => ?_)⟩
        rcases List.mem_cons.mp ha' with e | ha'
        · rw [e]; omega
        · cases ha'
      refine w_X11_goesRound_7 (by omega) ?_
      unfold wp_X11_goesRound_7
      rw [nI_clamp (n := w) (by omega), e58]
      refine ⟨nu_in (by omega) (by omega), ?_⟩
      by_cases c2 : c % 2 = 0
      · have e1 : rc_c (some c) = nI (c / 2) + 1 := if_pos c2
        rw [e1, d3, nI_clamp (n := c / 2) (by omega)]
        refine ⟨fun q => absurd q d4, fun _ => ⟨nu_in (by omega) (by omega), ?_⟩⟩
        rintro _ rfl
        refine ⟨nu_in (by omega) (by omega), ?_⟩
        rintro _ rfl
        refine key _ ?_
        rw [jw_sub n3 n4 (by omega) (by omega)]; unfold ne_r; rw [if_pos c2]
      · have e1 : rc_c (some c) = -(nI (c / 2)) - 1 := if_neg c2
        rw [e1, d1, nI_clamp (n := c / 2) (by omega)]
        refine ⟨fun _ => ⟨nu_in (by omega) (by omega), ?_⟩, fun q => absurd d2 q⟩
        rintro _ rfl
        refine key _ ?_
        rw [n4]; unfold ne_r; rw [if_neg c2]
    | cons c' q ih =>
      intro w c am ham hw hp hzn K
      obtain ⟨b1, b2, b3, b4, b5⟩ := hP w c hp.1
      have e58 : v.1 58 0 w = rc_c (some c) := by rw [hv w hw, hp.1]
      have he : c / 2 < m + 2 * n := by omega
      obtain ⟨n1, n2, n3, n4, n5⟩ := hN.2 (c / 2) he
      obtain ⟨d1, d2, d3, d4⟩ := rc_d (c / 2) (by omega)
      obtain ⟨f1, f2⟩ := hF.1 (c / 2) he
      obtain ⟨k1, k2, k3, k4, k5, _⟩ := ne_ok hK he
      have hbt := (ne_arc (f := f) hK b1).1
      have hnext : bT (ne_N L m f) c ≠ z := fun q => hzn (List.mem_map.mpr ⟨c', List.mem_cons_self, by rw [(hP _ c' hp.2.1).2.2.1]; exact q⟩)
      have rpos : 0 < ne_r L m f c ∧ ne_r L m f c ≤ 1000000000 := by
        rcases mo_2 c with ⟨i, ec⟩ | ⟨i, ec⟩
        · have ei : c / 2 = i := by omega
          rw [ec] at b2
          have := (ne_e i).2.2.2.mp b2
          rw [ei] at f1 f2 k4 k5
          unfold ne_r; rw [if_pos (by omega), ei]; omega
        · have ei : c / 2 = i := by omega
          rw [ec] at b2
          have := (ne_o i).2.2.2.mp b2
          rw [ei] at f1 f2 k4 k5
          unfold ne_r; rw [if_neg (by omega), ei]; omega
      have key : ∀ x : Int64, x.toInt = ne_r L m f c → wp_X11_goesRound_54 g d (nI z) (nI w) am x v Q := by
        intro x hx
        unfold wp_X11_goesRound_54
        obtain ⟨m1, m2, m3⟩ := jw_min (x := am) (y := x)
        refine c_minJ ?_
        rw [gd_rJ_at]
        refine r_behindOf hK hN hw e58 b1 ?_
        rw [gd_rI_at]
        refine ⟨fun _ => ?_, fun q => absurd (nu_inj (by omega) (by omega) q) hnext⟩
        refine ih (bT (ne_N L m f) c) c' _ (m3 ham (by omega)) hbt hp.2 (fun h => hzn (List.mem_cons_of_mem _ h)) (fun u u1 u2 u3 u4 => K u u1 (Int.le_trans u2 m1) u3 (fun a' ha' => ?_))
        rcases List.mem_cons.mp ha' with e | ha'
        · rw [e]; omega
        · exact u4 a' ha'
      refine w_X11_goesRound_7 (by omega) ?_
      unfold wp_X11_goesRound_7
      rw [nI_clamp (n := w) (by omega), e58]
      refine ⟨nu_in (by omega) (by omega), ?_⟩
      by_cases c2 : c % 2 = 0
      · have e1 : rc_c (some c) = nI (c / 2) + 1 := if_pos c2
        rw [e1, d3, nI_clamp (n := c / 2) (by omega)]
        refine ⟨fun q => absurd q d4, fun _ => ⟨nu_in (by omega) (by omega), ?_⟩⟩
        rintro _ rfl
        refine ⟨nu_in (by omega) (by omega), ?_⟩
        rintro _ rfl
        refine key _ ?_
        rw [jw_sub n3 n4 (by omega) (by omega)]; unfold ne_r; rw [if_pos c2]
      · have e1 : rc_c (some c) = -(nI (c / 2)) - 1 := if_neg c2
        rw [e1, d1, nI_clamp (n := c / 2) (by omega)]
        refine ⟨fun _ => ⟨nu_in (by omega) (by omega), ?_⟩, fun q => absurd d2 q⟩
        rintro _ rfl
        refine key _ ?_
        rw [n4]; unfold ne_r; rw [if_neg c2]
  have zl : z ∉ l.map (bH (ne_N L m f)) := by
    have := (List.nodup_cons.mp hn).1
    rw [(hP z a hr.1).2.2.1] at this
    exact this
  refine c_X11_goesRound (Nat.zero_le _) ?_
  refine first l z a _ (by decide) hz hr zl (fun u u1 _ u3 u4 => ?_)
  exact second u l z a f v u1 u3 fr.rf hN hz hr zl nh (fun _ _ => rfl) (fun v' f' N' => hQ v' u.toInt f' u1 u4 N')
end RT
