/-! THE CALLS: text, the reference's side -/
def gs_by (S : gs_T) : Prop := ∀ j, j < S.2.2.1.1 → (S.2.2.1.2 j).toInt8.toInt32 = S.2.2.1.2 j
theorem pTx_ln {T : Nat → Int32} {n k p : Nat} {u : uT} (hlt : p < n) : pTx T n (k + 1) p u = match pLn T n p u with
    | Sum.inl e => Sum.inl e
    | Sum.inr q => pTx T n k q.1 q.2 := by
  show (if p < n then _ else _) = _
  rw [if_pos hlt]
  unfold pLn
  cases hx : pLine T n p u with
  | inl e => rfl
  | inr q =>
    show (match yG T n 59 q.1 with
      | Sum.inl e => Sum.inl e
      | Sum.inr q' => pTx T n k q' q.2) = match (match yG T n 59 q.1 with
      | Sum.inl e => Sum.inl e
      | Sum.inr q' => Sum.inr (q', q.2) : rL) with
      | Sum.inl e => Sum.inl e
      | Sum.inr q => pTx T n k q.1 q.2
    cases hy : yG T n 59 q.1 with
    | inl e => rfl
    | inr q' => rfl
theorem pLn_g {T : Nat → Int32} {n p : Nat} {u : uT} (hst : stt T n p) (hlt : p < n) (hn5 : n ≤ 500) (hu : uOK u) : match pLn T n p u with
    | Sum.inl _ => True
    | Sum.inr q => p < q.1 ∧ stt T n q.1 ∧ uOK q.2 := by
  have hg := pLine_g hst hlt hn5 hu
  unfold pLn
  cases hx : pLine T n p u with
  | inl e => trivial
  | inr q =>
    rw [hx] at hg
    obtain ⟨g1, g2, g3⟩ := hg
    show match (match yG T n 59 q.1 with
      | Sum.inl e => Sum.inl e
      | Sum.inr q' => Sum.inr (q', q.2) : rL) with
      | Sum.inl _ => True
      | Sum.inr q => p < q.1 ∧ stt T n q.1 ∧ uOK q.2
    cases hy : yG T n 59 q.1 with
    | inl e => trivial
    | inr q' =>
      have hq' : q.1 < n ∧ q' = nx T n q.1 := by
        unfold yG at hy
        split at hy
        · rename_i hc; cases hy; exact ⟨hc.1, rfl⟩
        · cases hy
      have hnx := nx_sp (T := T) hq'.1
      rw [← hq'.2] at hnx
      exact ⟨by show p < q'; omega, hnx.2, g3⟩
/-- the row that was read holds the house, once what wasn't told is plain -/
theorem rd_rm {f f' : Nat → Int64} {u : uT} (h : rd f u) (hu : uOK u) (h7 : f 7 = lN (Hc u.1).length) (hc : ∀ i, i < (Hc u.1).length → f (273 + i) = lN ((Hc u.1).getD i 0)) (hX : ∀ q, ¬ (3 ≤ q ∧ q ≤ 6) → f' q = f q) (hP : ∀ q, 3 ≤ q → q ≤ 6 → f' q = if f q = -1 then lN (dfl q) else f q) : rm_R f' u.1 := by
  obtain ⟨a1, a2, a3, a4, a5, a6, a7⟩ := h
  obtain ⟨hW, u2, u3, u4, u5, u6⟩ := hu
  have h8 := hW.1
  have h24 := hW.2.1
  refine ⟨fun j hj => ?_, by rw [hX 7 (by omega)]; exact h7, by rw [hX 8 (by omega), a5]; exact u3.symm, fun i hi => ?_, fun i hi j hj => ?_, fun k hk => by rw [hX _ (by omega)]; exact hc k hk⟩
  · have hcj : j = 0 ∨ j = 1 ∨ j = 2 ∨ (3 ≤ j ∧ j ≤ 6) := by omega
    rcases hcj with q | q | q | q
    · subst q; rw [hX 0 (by omega)]; exact a1
    · subst q; rw [hX 1 (by omega)]; exact a2
    · subst q; rw [hX 2 (by omega), a3, u2]; rfl
    · rw [hP j q.1 q.2, a4 j q.1 q.2]
      cases e : u.2 j with
      | true =>
        have hb : Hh u.1 j < 2 ^ 31 := by
          obtain ⟨b0, b1, b2, b3, b4, b5, b6, -⟩ := hW
          have hcj : j = 3 ∨ j = 4 ∨ j = 5 ∨ j = 6 := by omega
          rcases hcj with q | q | q | q <;> subst q <;> omega
        rw [if_pos rfl, if_neg (lN_m1 hb)]
      | false => rw [if_neg Bool.false_ne_true, if_pos rfl, u5 j q.1 q.2 e]
  · rw [hX _ (by omega), hX _ (by omega), a6 i (by omega) 0 (by omega), a6 i (by omega) 5 (by omega), if_pos ⟨hi, rfl⟩, if_neg (by omega), (u4 i hi).1]
    refine ⟨rfl, rfl, fun j j1 j4 => ?_⟩
    rw [hX _ (by omega), a6 i (by omega) j (by omega), if_neg (by omega), (u4 i hi).2 j]
  · rw [hX _ (by omega), a7 i (by omega) j hj, if_pos hi]
section RTX
variable {g : ab_E} {d : Nat} {v : gd_D} {Q : ab_O → gd_D → Prop} {S : gs_T}
theorem r_plain {q : Nat} {a : Int64} (hq : q < 773) (h : ∀ v', fr (fx [41]) v v' → (∀ z, ¬ z = q → v'.2.1 41 0 z = v.2.1 41 0 z) → v'.2.1 41 0 q = (if v.2.1 41 0 q = -1 then a else v.2.1 41 0 q) → Q (Sum.inl none) v') : gd_C g mX11_plain d 0 0 [zR 11 0, zI (nI q), zJ a] v Q := by
  refine c_X11_plain (Nat.zero_le _) ?_
  unfold wp_X11_plain
  rw [nI_clamp (by omega)]
  refine ⟨nu_in hq (by omega), fun z => h v fr.rf (fun _ _ => rfl) (by rw [if_neg z]), fun z => ⟨nu_in hq (by omega), ?_⟩⟩
  rintro _ rfl
  exact h _ (fr.sJ (fx_y rfl)) (fun y hy => sJ_ne (by omega)) (by rw [sJ_at, if_pos z])
theorem rr_text {x : Int32} (hd : 43 ≤ d) (hG : gr_R v S) (hS : gs_ok S) (hB : gs_by S) (h1 : ∀ n v', n ≤ S.2.2.1.1 → x = nI n → fre v v' → v'.1 11 0 0 = 0 → gr_R v' (gs_text S n) → Q (Sum.inl (some (zI (gs_textv S n)))) v') (h0 : ¬ (nI 0 ≤ x ∧ x ≤ nI S.2.2.1.1) → ∀ v', fre v v' → v'.1 11 0 0 = 1 → gr_R v' (gs_no S 1) → Q (Sum.inl (some (zI 0))) v') : gd_C g mX11_text d 0 0 [zR 11 0, zI x] v Q := by
  have hl := hS.2.2
  obtain ⟨b1, b2', b3⟩ := gr_begin hG
  refine c_X11_text (by omega) ?_
  rintro _ rfl
  rw [b1.2.2.1, nu_l (by omega)]
  refine r_lies ?_
  rw [gd_rI_at]
  refine r_fineIf (k := 1) (by decide) (by decide) b3 (fun hp => ?_) (fun hp => ?_)
  · have hp' := (nu_lies (x := x) (a := 0) (b := S.2.2.1.1) (by omega) (by omega)).mp hp
    obtain ⟨n, -, n2, e⟩ := nu_rng (a := 0) (b := S.2.2.1.1) (by omega) (by omega) hp'.1 hp'.2
    subst e
    refine ⟨fun _ => ?_, fun z => absurd z (by decide)⟩
    -- behind all lines
    have after : ∀ (w : gd_D), fr (fun k i j => (k = 11 ∧ i = 0 ∧ 9 ≤ j ∧ ¬ j = 15 ∧ j ≤ 16) ∨ k = 41 ∨ k = 45) (gd_sI v 11 0 0 0) w → w.1 11 0 9 = 0 → rU w S.2.2.1.2 n (pText S.2.2.1.2 n) → wp_X11_text_143 g d w Q := by
      intro w fw w9 Uw
      have hg := pText_g (T := S.2.2.1.2) (n := n) (by omega)
      have t0 : w.1 11 0 0 = 0 := by rw [(fw.1 11 0 0 (fun q => by rcases q with q | q | q <;> omega)).1]; exact b3
      have e6 : w.1 11 0 6 = (gd_sI v 11 0 0 0).1 11 0 6 := (fw.1 11 0 6 (fun q => by rcases q with q | q | q <;> omega)).1
      have no : ∀ k i j, ¬ k = 11 → ¬ k = 41 → ¬ k = 45 → w.1 k i j = (gd_sI v 11 0 0 0).1 k i j ∧ w.2.1 k i j = (gd_sI v 11 0 0 0).2.1 k i j := fun k i j h1 h2 h3 => fw.1 k i j (fun q => by rcases q with q | q | q <;> omega)
      have rowJ : ∀ k, ¬ k = 11 → ¬ k = 41 → ¬ k = 45 → w.2.1 k 0 = (gd_sI v 11 0 0 0).2.1 k 0 := fun k h1 h2 h3 => funext fun j => (no k 0 j h1 h2 h3).2
      have rowI : ∀ k, ¬ k = 11 → ¬ k = 41 → ¬ k = 45 → w.1 k 0 = (gd_sI v 11 0 0 0).1 k 0 := fun k h1 h2 h3 => funext fun j => (no k 0 j h1 h2 h3).1
      have fre_w : ∀ w' : gd_D, fr (fun k i j => (k = 11 ∧ i = 0 ∧ 9 ≤ j ∧ j ≤ 16) ∨ k = 41 ∨ k = 45) (gd_sI v 11 0 0 0) w' → fre v w' := fun w' f => b2'.tr (f.re (fun k i j q => by rcases q with q | q | q <;> omega))
      have Gw : ∀ (fa : Int32) (w' : gd_D), w' = gd_sI w 11 0 15 fa → gr_R w' (S.1, S.2.1, (0, S.2.2.1.2), fa, S.2.2.2.2) ∧ fre v w' ∧ w'.1 11 0 0 = 0 := by
        intro fa w' hw'
        subst hw'
        have fw2 : fr (fun k i j => (k = 11 ∧ i = 0 ∧ 9 ≤ j ∧ j ≤ 16) ∨ k = 41 ∨ k = 45) (gd_sI v 11 0 0 0) (gd_sI w 11 0 15 fa) := (fw.wk (fun k i j q => by
          rcases q with q | q | q
          · exact Or.inl ⟨q.1, q.2.1, q.2.2.1, q.2.2.2.2⟩
          · exact Or.inr (Or.inl q)
          · exact Or.inr (Or.inr q))).tr (fr.sI (Or.inl ⟨rfl, rfl, by omega, by omega⟩))
        obtain ⟨a1, a2, a3, a4, a5, a6, a7⟩ := b1
        refine ⟨⟨by show rm_R (w.2.1 40 0) S.1; rw [rowJ 40 (by decide) (by decide) (by decide)]; exact a1, ⟨by rw [sI_ne (by omega), e6]; exact a2.1, by show ∀ (k : Nat) (K : hs_T), S.2.1[k]? = some K → rm_R (fun j => w.2.1 43 0 (773 * k + j)) K; rw [rowJ 43 (by decide) (by decide) (by decide)]; exact a2.2⟩, by rw [sI_ne (by omega)]; exact w9, fun j hj => absurd hj (by show ¬ j < 0; omega), sI_at, fun k hk => by rw [sI_ne (by omega), rowI 39 (by decide) (by decide) (by decide)]; exact a6 k hk, fun z hz => by rw [sI_ne (by omega), rowI 55 (by decide) (by decide) (by decide)]; exact a7 z hz⟩, fre_w _ fw2, by rw [sI_ne (by omega)]; exact t0⟩
      cases hx : pText S.2.2.1.2 n with
      | inl e =>
        rw [hx] at Uw hg
        have Uw : rP w S.2.2.1.2 n (Sum.inl e) := Uw
        obtain ⟨ht, k, hk, e0, e1, e2, e3, e4⟩ := id Uw
        refine ⟨fun z => absurd z Uw.dead.2, fun _ => ?_⟩
        rintro _ rfl
        rw [sI_ne (by omega), e3]
        refine ⟨fun z => absurd z (nI_nle e1 (by omega)), fun _ => ?_⟩
        rw [e4]
        obtain ⟨G, F, t⟩ := Gw (nI e.2) _ rfl
        have tt := h1 n _ n2 rfl F t
        unfold gs_text gs_textv at tt
        rw [hx] at tt
        exact tt G
      | inr q =>
        rw [hx] at Uw hg
        obtain ⟨Pw, rw1, cw⟩ := Uw
        have hu : uOK q.2 := hg
        refine ⟨fun _ => ?_, fun z => absurd Pw.live.2 z⟩
        rintro _ rfl
        rw [sI_ne (by omega)]
        refine ⟨fun _ => ?_, fun z => absurd Pw.live.2 z⟩
        obtain ⟨G, F, t⟩ := Gw (-1) _ rfl
        refine r_plain (q := 3) (by omega) (fun w1 f1 x1 p1 => ?_)
        rw [gd_rV_at]
        refine r_plain (q := 4) (by omega) (fun w2 f2 x2 p2 => ?_)
        rw [gd_rV_at]
        refine r_plain (q := 5) (by omega) (fun w3 f3 x3 p3 => ?_)
        rw [gd_rV_at]
        refine r_plain (q := 6) (by omega) (fun w4 f4 x4 p4 => ?_)
        rw [gd_rV_at]
        have f14 : fr (fx [41]) (gd_sI w 11 0 15 (-1)) w4 := ((f1.tr f2).tr f3).tr f4
        have rm4 : rm_R (w4.2.1 41 0) q.2.1 := by
          refine rd_rm (f := w.2.1 41 0) rw1 hu cw.1 cw.2 (fun z hz => ?_) (fun z z3 z6 => ?_)
          · rw [x4 z (by omega), x3 z (by omega), x2 z (by omega), x1 z (by omega)]; rfl
          · have hcz : z = 3 ∨ z = 4 ∨ z = 5 ∨ z = 6 := by omega
            rcases hcz with e | e | e | e
            · subst e; rw [x4 3 (by omega), x3 3 (by omega), x2 3 (by omega), p1]; rfl
            · subst e; rw [x4 4 (by omega), x3 4 (by omega), p2, x1 4 (by omega)]; rfl
            · subst e; rw [x4 5 (by omega), p3, x2 5 (by omega), x1 5 (by omega)]; rfl
            · subst e; rw [p4, x3 6 (by omega), x2 6 (by omega), x1 6 (by omega)]; rfl
        have F14 : fre (gd_sI w 11 0 15 (-1)) w4 := f14.re (fun k i j q => by rw [List.mem_singleton.mp q]; omega)
        have G4 : gr_R w4 (S.1, S.2.1, (0, S.2.2.1.2), -1, S.2.2.2.2) := by
          obtain ⟨a1, a2, a3, a4, a5, a6, a7⟩ := G
          exact ⟨by rw [f14.J (fun _ => fx_n rfl)]; exact a1, ⟨by rw [f14.I (fun _ => fx_n rfl)]; exact a2.1, by rw [f14.J (fun _ => fx_n rfl)]; exact a2.2⟩, by rw [f14.I (fun _ => fx_n rfl)]; exact a3, by rw [f14.I (fun _ => fx_n rfl)]; exact a4, by rw [f14.I (fun _ => fx_n rfl)]; exact a5, by rw [f14.I (fun _ => fx_n rfl)]; exact a6, by rw [f14.I (fun _ => fx_n rfl)]; exact a7⟩
        have hS4 : gs_ok (S.1, S.2.1, (0, S.2.2.1.2), (-1 : Int32), S.2.2.2.2) := ⟨hS.1, hS.2.1, Nat.zero_le _⟩
        obtain ⟨a1, a2, a3, a4, a5, a6, a7⟩ := id G4
        refine r_keeps a1 hS.1 a2 hS.2.1 (fun w5 f5 hL5 => ?_)
        rw [gd_rV_at]
        have no5 : ∀ k i, ¬ k = 43 → ¬ k = 11 → ∀ j, ¬ fK k i j := fun k i h1 h2 j q => by rcases q with q | q <;> omega
        have e11 : ∀ j, ¬ j = 6 → w5.1 11 0 j = w4.1 11 0 j := fun j hj => (f5.1 11 0 j (fun q => by rcases q with q | q <;> omega)).1
        have F5 : fre w4 w5 := f5.re (fun k i j q => by rcases q with q | q <;> omega)
        have rm5 : rm_R (w5.2.1 41 0) q.2.1 := by rw [f5.J (no5 41 0 (by decide) (by decide))]; exact rm4
        have t5 : w5.1 11 0 0 = 0 := by rw [e11 0 (by omega), f14.I (fun _ => fx_n rfl)]; exact t
        -- the row comes over
        have copy : ∀ (k i : Nat) (y : gd_D), i + k = 773 → fr (fx [40]) w5 y → (∀ z, z < i → y.2.1 40 0 z = w5.2.1 41 0 z) → gd_G g mX11_text d 0 0 212 [(0, zR 11 0), (2, zI (nI i))] [] y Q := by
          intro k
          induction k with
          | zero =>
            intro i y hi fy hz
            have e : i = 773 := by omega
            subst e
            have rmy : rm_R (y.2.1 40 0) q.2.1 := by
              have h8 := hu.1.1
              have h24 := hu.1.2.1
              have h500 : (Hc q.2.1).length ≤ 500 := hu.1.2.2.2.2.2.2.2.2.2.1
              obtain ⟨c1, c2, c3, c4, c5, c6⟩ := rm5
              refine ⟨fun j hj => by rw [hz j (by omega)]; exact c1 j hj, by rw [hz 7 (by omega)]; exact c2, by rw [hz 8 (by omega)]; exact c3, fun i hi => ⟨by rw [hz _ (by omega)]; exact (c4 i hi).1, by rw [hz _ (by omega)]; exact (c4 i hi).2.1, fun j j1 j4 => by rw [hz _ (by omega)]; exact (c4 i hi).2.2 j j1 j4⟩, fun i hi j hj => by rw [hz _ (by omega)]; exact c5 i hi j hj, fun k hk => by rw [hz _ (by omega)]; exact c6 k hk⟩
            refine w_X11_text_212 (by omega) (pk_le 773 773 (fun _ => r_sales rmy ?_) (fun q => absurd q (by omega)) rfl rfl (by omega) (by omega))
            rw [gd_rI_at]
            have Fy : fre w5 y := fy.re (fun k i j q => by rw [List.mem_singleton.mp q]; omega)
            have tt := h1 n y n2 rfl (((F.tr F14).tr F5).tr Fy) (by rw [fy.I (fun _ => fx_n rfl)]; exact t5)
            unfold gs_text gs_textv at tt
            rw [hx] at tt
            refine tt ⟨rmy, ⟨by rw [fy.I (fun _ => fx_n rfl)]; exact hL5.1, by rw [fy.J (fun _ => fx_n rfl)]; exact hL5.2⟩, by rw [fy.I (fun _ => fx_n rfl), e11 9 (by omega)]; exact a3, fun j hj => absurd hj (by show ¬ j < 0; omega), by rw [fy.I (fun _ => fx_n rfl), e11 15 (by omega)]; exact a5, by rw [fy.I (fun _ => fx_n rfl), f5.I (no5 39 0 (by decide) (by decide))]; exact a6, by rw [fy.I (fun _ => fx_n rfl), f5.I (no5 55 0 (by decide) (by decide))]; exact a7⟩
          | succ k ih =>
            intro i y hi fy hz
            refine w_X11_text_212 (by omega) (pk_le 773 i (fun q => absurd q (by omega)) (fun _ => ⟨nu_in (by omega) (by omega), nu_in (by omega) (by omega), ?_⟩) rfl rfl (by omega) (by omega))
            rintro _ rfl
            rw [nI_clamp (by omega), nu_1]
            refine ih (i + 1) _ (by omega) (fy.tr (fr.sJ (fx_y rfl))) (fun z hz2 => ?_)
            by_cases e : z = i
            · subst e; rw [sJ_at, fy.J (fun _ => fx_n rfl)]
            · rw [sJ_ne (by omega)]; exact hz z (by omega)
        exact copy 773 0 w5 (by omega) fr.rf (fun z hz => absurd hz (by omega))
    -- the lines
    have lines : ∀ (k p : Nat) (u : uT) (w : gd_D), n ≤ p + k → stt S.2.2.1.2 n p → rU w S.2.2.1.2 n (Sum.inr (p, u)) → uOK u → pTx S.2.2.1.2 n k p u = pText S.2.2.1.2 n → fr (fun k i j => (k = 11 ∧ i = 0 ∧ 9 ≤ j ∧ ¬ j = 15 ∧ j ≤ 16) ∨ k = 41 ∨ k = 45) (gd_sI v 11 0 0 0) w → w.1 11 0 9 = 0 → gd_G g mX11_text d 0 0 111 [(0, zR 11 0)] [] w Q := by
      have fMX : ∀ k i j, fM k i j → (k = 11 ∧ i = 0 ∧ 9 ≤ j ∧ ¬ j = 15 ∧ j ≤ 16) ∨ k = 41 ∨ k = 45 := fun k i j q => by
        rcases q with q | q | q
        · have := q.2.2; exact Or.inl ⟨q.1, q.2.1, by omega, by omega, by omega⟩
        · exact Or.inl ⟨q.1, q.2.1, by omega, by omega, by omega⟩
        · exact Or.inr (Or.inl q.1)
      have m9 : ∀ {a b : gd_D}, fr fM a b → b.1 11 0 9 = a.1 11 0 9 := fun f => (f.1 11 0 9 (fun q => by
        rcases q with q | q | q
        · have := q.2.2; omega
        · omega
        · exact absurd q.1 (by decide))).1
      intro k
      induction k with
      | zero =>
        intro p u w hk hst Uw hu hx fw w9
        have hpn : p = n := by have := hst.1; omega
        refine w_X11_text_111 hd ⟨fun z => absurd Uw.1.live.1 z, fun _ => r_sign Uw.1 (fun v1 x e q => by cases q) (fun w1 p' q f1 E1 => ?_)⟩
        cases q
        rw [gd_rI_at, if_neg (by omega)]
        obtain ⟨t1, hh1, hf1, hst1⟩ := id E1
        refine ⟨fun z => absurd rfl z, fun _ => pk_le n p (fun _ => ?_) (fun q => absurd q (by omega)) t1.2.1 hh1 (by omega) (by omega)⟩
        refine after w1 (fw.tr ((f1.wk fD1_M).wk fMX)) (by rw [m9 (f1.wk fD1_M)]; exact w9) ?_
        rw [← hx]
        exact ⟨E1.P, Uw.2.1.J (f1.wk fD1_D), Uw.2.2.D (f1.wk fD1_D)⟩
      | succ k ih =>
        intro p u w hk hst Uw hu hx fw w9
        have hp := hst.1
        refine w_X11_text_111 hd ⟨fun z => absurd Uw.1.live.1 z, fun _ => r_sign Uw.1 (fun v1 x e q => by cases q) (fun w1 p' q f1 E1 => ?_)⟩
        cases q
        rw [gd_rI_at]
        obtain ⟨t1, hh1, hf1, hst1⟩ := id E1
        have r1 := Uw.2.1.J (f1.wk fD1_D)
        have c1 := Uw.2.2.D (f1.wk fD1_D)
        have fw1 := fw.tr ((f1.wk fD1_M).wk fMX)
        have w19 : w1.1 11 0 9 = 0 := by rw [m9 (f1.wk fD1_M)]; exact w9
        have go : p < n → wp_X11_text_136 g d w1 Q := by
          intro hlt
          have hg := pLn_g hst hlt (by omega) hu
          rw [pTx_ln hlt] at hx
          refine r_line (Nat.le_refl 42) E1.P hst r1 c1 hu (fun w2 f2 U2 => ?_)
          rw [gd_rV_at]
          have fw2 := fw1.tr (f2.wk fMX)
          have w29 : w2.1 11 0 9 = 0 := by rw [m9 f2]; exact w19
          cases hy : pLn S.2.2.1.2 n p u with
          | inl e =>
            rw [hy] at U2 hx
            have U2 : rP w2 S.2.2.1.2 n (Sum.inl e) := U2
            refine w_X11_text_111 hd ⟨fun _ => after w2 fw2 w29 ?_, fun z => absurd z U2.dead.1⟩
            rw [← hx]; exact U2
          | inr q =>
            obtain ⟨q, u'⟩ := q
            rw [hy] at U2 hx hg
            obtain ⟨g1, g2, g3⟩ := hg
            have g1 : p < q := g1
            exact ih q u' w2 (by omega) g2 U2 g3 hx fw2 w29
        by_cases hlt : p < n
        · rw [if_pos hlt]
          exact ⟨fun _ => go hlt, fun _ => pk_le n p (fun q => absurd q (by omega)) (fun _ => go hlt) t1.2.1 hh1 (by omega) (by omega)⟩
        · rw [if_neg hlt]
          refine ⟨fun z => absurd rfl z, fun _ => pk_le n p (fun _ => ?_) (fun q => absurd q (by omega)) t1.2.1 hh1 (by omega) (by omega)⟩
          refine after w1 fw1 w19 ?_
          rw [← hx]
          show rU w1 S.2.2.1.2 n (if p < n then _ else Sum.inr (p, u))
          rw [if_neg hlt]
          exact ⟨E1.P, r1, c1⟩
    -- the row is made empty
    have empty : ∀ (k i : Nat) (w : gd_D), i + k = 773 → fr (fun k i j => (k = 11 ∧ i = 0 ∧ 9 ≤ j ∧ ¬ j = 15 ∧ j ≤ 16) ∨ k = 41 ∨ k = 45) (gd_sI v 11 0 0 0) w → w.1 11 0 9 = 0 → (n ≤ 500 ∧ w.1 11 0 10 = nI n ∧ ∀ j, j < n → w.1 45 0 j = S.2.2.1.2 j) → w.1 11 0 11 = nI 0 → w.1 11 0 13 = 0 → (∀ z, z < i → w.2.1 41 0 z = if 3 ≤ z ∧ z ≤ 6 then -1 else 0) → gd_G g mX11_text d 0 0 74 [(0, zR 11 0), (2, zI (nI i))] [] w Q := by
      intro k
      induction k with
      | zero =>
        intro i w hi fw w9 tw w11 w13 hz
        have e : i = 773 := by omega
        subst e
        refine w_X11_text_74 (Nat.zero_le _) (pk_le 773 773 (fun _ => ?_) (fun q => absurd q (by omega)) rfl rfl (by omega) (by omega))
        have zz : ∀ z, z < 773 → ¬ (3 ≤ z ∧ z ≤ 6) → w.2.1 41 0 z = 0 := fun z h1 h2 => by rw [hz z h1, if_neg h2]
        refine lines n (rn isB S.2.2.1.2 n 0) (h_0, fun _ => false) w (by omega) (stt_rn (Nat.zero_le _)) ⟨⟨tw, 0, w11, Nat.zero_le _, w13, rfl⟩, ⟨zz 0 (by omega) (by omega), zz 1 (by omega) (by omega), zz 2 (by omega) (by omega), fun j j3 j6 => by rw [hz j (by omega), if_pos ⟨j3, j6⟩]; rfl, zz 8 (by omega) (by omega), fun i hi j hj => ?_, fun i hi j hj => ?_⟩, zz 7 (by omega) (by omega), fun i hi => absurd hi (by show ¬ i < 0; omega)⟩ u_0_ok rfl fw w9
        · rw [zz _ (by omega) (by omega)]; rfl
        · rw [zz _ (by omega) (by omega)]; rfl
      | succ k ih =>
        intro i w hi fw w9 tw w11 w13 hz
        have st : ∀ (a : Int64), a = (if 3 ≤ i ∧ i ≤ 6 then -1 else 0) → wp_X11_text_104 g d (nI i) (nI i) a w Q := by
          intro a ha
          refine ⟨nu_in (by omega) (by omega), ?_⟩
          rintro _ rfl
          rw [nI_clamp (by omega), nu_1]
          refine ih (i + 1) _ (by omega) (fw.tr (fr.sJ (Or.inr (Or.inl rfl)))) w9 tw w11 w13 (fun z hz2 => ?_)
          by_cases e : z = i
          · subst e; rw [sJ_at]; exact ha
          · rw [sJ_ne (by omega)]; exact hz z (by omega)
        refine w_X11_text_74 (Nat.zero_le _) (pk_le 773 i (fun q => absurd q (by omega)) (fun _ => pk_lt i 3 (fun q => st 0 (by rw [if_neg (by omega)])) (fun q3 => pk_lt 6 i (fun q => st 0 (by rw [if_neg (by omega)])) (fun q6 => st (-1) (by rw [if_pos ⟨q3, q6⟩])) rfl rfl (by omega) (by omega)) rfl rfl (by omega) (by omega)) rfl rfl (by omega) (by omega))
    -- the tape comes over
    have tape : ∀ (k i : Nat) (w : gd_D), i + k = n → fr (fx [45]) (gd_sI v 11 0 0 0) w → (∀ z, z < i → w.1 45 0 z = S.2.2.1.2 z) → gd_G g mX11_text d 0 0 29 [(0, zR 11 0), (1, zI (nI n)), (2, zI (nI i))] [] w Q := by
      intro k
      induction k with
      | zero =>
        intro i w hi fw hz
        have e : i = n := by omega
        subst e
        refine w_X11_text_29 (Nat.zero_le _) (pk_le i i (fun _ => ?_) (fun q => absurd q (by omega)) rfl rfl (by omega) (by omega))
        rintro _ rfl _ rfl _ rfl w4 h4
        have i4 : ∀ k a j, ¬ (k = 11 ∧ a = 0 ∧ (j = 9 ∨ j = 10 ∨ j = 11 ∨ j = 13)) → w4.1 k a j = w.1 k a j := fun k a j hne => by
          rw [h4]
          repeat rw [sI_ne (by omega)]
        have f4 : fr (fun k i j => (k = 11 ∧ i = 0 ∧ 9 ≤ j ∧ ¬ j = 15 ∧ j ≤ 16) ∨ k = 41 ∨ k = 45) w w4 := by
          rw [h4]
          exact (((fr.sI (Or.inl ⟨rfl, rfl, by omega, by omega, by omega⟩)).tr (fr.sI (Or.inl ⟨rfl, rfl, by omega, by omega, by omega⟩))).tr (fr.sI (Or.inl ⟨rfl, rfl, by omega, by omega, by omega⟩))).tr (fr.sI (Or.inl ⟨rfl, rfl, by omega, by omega, by omega⟩))
        refine empty 773 0 w4 (by omega) ((fw.wk (fun k i j q => Or.inr (Or.inr (List.mem_singleton.mp q)))).tr f4) ?_ ⟨by omega, ?_, fun j hj => by rw [i4 45 0 j (by omega)]; exact hz j hj⟩ ?_ ?_ (fun z hz => absurd hz (by omega))
        · rw [h4, sI_ne (by omega), sI_ne (by omega), sI_ne (by omega), sI_at]
        · rw [h4, sI_ne (by omega), sI_ne (by omega), sI_at]
        · rw [h4, sI_ne (by omega), sI_at]; rfl
        · rw [h4, sI_at]
      | succ k ih =>
        intro i w hi fw hz
        refine w_X11_text_29 (Nat.zero_le _) (pk_le n i (fun q => absurd q (by omega)) (fun _ => ⟨nu_in (by omega) (by omega), nu_in (by omega) (by omega), ?_⟩) rfl rfl (by omega) (by omega))
        rintro _ rfl
        rw [nI_clamp (by omega), nu_1, fw.I (k := 44) (fun _ => fx_n rfl), b1.2.2.2.1 i (by omega), hB i (by omega)]
        refine ih (i + 1) _ (by omega) (fw.tr (fr.sI (fx_y rfl))) (fun z hz2 => ?_)
        by_cases e : z = i
        · subst e; exact sI_at
        · rw [sI_ne (by omega)]; exact hz z (by omega)
    exact tape n 0 _ (by omega) fr.rf (fun z hz => absurd hz (by omega))
  · have hp' : ¬ (nI 0 ≤ x ∧ x ≤ nI S.2.2.1.1) := fun q => hp ((nu_lies (x := x) (a := 0) (b := S.2.2.1.1) (by omega) (by omega)).mpr q)
    obtain ⟨n1, n2, n3⟩ := gr_no (c := 1) (k := 1) (by decide) b1
    exact ⟨fun z => absurd rfl z, fun _ => h0 hp' _ (b2'.tr n2) n3 n1⟩
end RTX
