/-! A BUY-IN GOES DOWN, the reference's side -/
theorem drop_hd {l m : List Nat} {i b : Nat} (h : l.drop i = b :: m) : l[i]? = some b := by rw [← List.head?_drop, h]; rfl
theorem drop_no {l : List Nat} {i : Nat} (h : l.drop i = []) : l[i]? = none := by rw [← List.head?_drop, h]; rfl
/-- the reference's world on a way down -/
def rc_R (v : gd_D) (N : Nat) (S : Nat → Nat → Nat) (x : cl_T) (ab : Nat → Bool) (O : List Nat) : Prop :=
  rm_R (v.2.1 40 0) x.1 ∧ rm_O v O ∧ (∀ s b, s < N → b < N → v.1 51 0 (24 * s + b) = nI (S s b) ∧ ∃ w, v.1 52 0 (24 * s + b) = nI w ∧ w + x.2 s b = S s b) ∧ ∀ z, z < 24 → v.1 55 0 z = b2 (ab z)
theorem nu_lmax {a b : Nat} (ha : a < 2 ^ 30) (hb : b < 2 ^ 30) : (if (0 : Int64) < lN a - lN b then lN a - lN b else 0) = lN (a - b) := by
  by_cases h : b < a
  · rw [lN_sub (by omega), if_pos (by rw [nu_J 0, lN_lt (by omega) (by omega)]; omega)]
  · rw [if_neg, show a - b = 0 from by omega]
    · rfl
    · rw [Int64.lt_iff_toInt_lt, Int64.toInt_sub, lN_toInt (by omega), lN_toInt (by omega), Int.bmod_eq_of_le (by omega) (by omega)]
      have : (0 : Int64).toInt = 0 := by decide
      omega
section RC
variable {g : ab_E}
theorem r_partAt {d : Nat} {v : gd_D} {Q : ab_O → gd_D → Prop} {H : hs_T} {O : List Nat} {s i : Nat} {U : Nat → Nat} (hd : 3 ≤ d) (hi : i < 2 ^ 31) (hR : rm_R (v.2.1 40 0) H) (h24 : Hh H 1 ≤ 24) (hO : rm_O v O) (hOl : O.length = Hh H 1) (hOm : ∀ s ∈ O, s < Hh H 1) (hs : s < Hh H 1) (hU : ∀ b, b < Hh H 1 → v.1 51 0 (24 * s + b) = nI (U b) ∧ U b ≤ 1000) (h : Q (Sum.inl (some (zI (oi ((O.filter (fun b => decide (0 < U b)))[i]?)))) ) v) : gd_C g mX11_partAt d 0 0 [zR 11 0, zI (nI s), zI (nI i)] v Q := by
  refine c_X11_partAt (Nat.zero_le _) ?_
  have key : ∀ (l : List Nat) (j k : Nat), O.drop j = l → j ≤ O.length → k < 2 ^ 31 → Q (Sum.inl (some (zI (oi ((l.filter (fun b => decide (0 < U b)))[k]?))))) v → gd_G g mX11_partAt d 0 0 5 [(0, zR 11 0), (1, zI (nI s)), (3, zI (nI k)), (4, zI (nI j))] [] v Q := by
    intro l
    induction l with
    | nil =>
      intro j k hl hj hk hq
      have ej := drop_end hl hj
      exact w_X11_partAt_5 hd (r_sales hR (pk_le (Hh H 1) j (fun _ => hq) (fun q => absurd q (by omega)) rfl rfl (by omega) (by omega)))
    | cons b l ih =>
      intro j k hl hj hk hq
      obtain ⟨hj2, hb0, hl2, hmem⟩ := drop_at hl
      have hb := hOm b hmem
      have eO : v.1 47 0 j = nI b := by rw [hO j hj2, hb0]
      have hUb := hU b hb
      refine w_X11_partAt_5 hd (r_sales hR (pk_le (Hh H 1) j (fun q => absurd q (by omega)) (fun _ => ⟨nu_in (by omega) (by omega), ?_⟩) rfl rfl (by omega) (by omega)))
      rintro _ rfl
      rw [nI_clamp (by omega), eO, nu_24, nI_clamp (by omega), hUb.1]
      refine ⟨nu_in (by omega) (by omega), fun hc => ?_, fun hc => ?_⟩
      · have hpos : 0 < U b := by
          rcases Nat.eq_zero_or_pos (U b) with z | z
          · rw [z] at hc; exact absurd rfl hc
          · exact z
        rw [List.filter_cons_of_pos (p := fun b => decide (0 < U b)) (decide_eq_true hpos)] at hq
        refine ⟨fun hk0 => ?_, fun hk0 => ?_⟩
        · cases k with
          | zero => exact absurd rfl hk0
          | succ k =>
            rw [nu_p, nu_1]
            refine ih (j + 1) k hl2 (by omega) (by omega) ?_
            rw [List.getElem?_cons_succ] at hq; exact hq
        · have : k = 0 := (nI_eq (b := 0) hk (by omega)).mp hk0
          subst this
          exact ⟨nu_in (by omega) (by omega), hq⟩
      · have hz : U b = 0 := (nI_eq (b := 0) (by omega) (by omega)).mp hc
        rw [List.filter_cons_of_neg (p := fun b => decide (0 < U b)) (by rw [hz]; decide)] at hq
        rw [nu_1]
        exact ih (j + 1) k hl2 (by omega) hk hq
  exact key O 0 i rfl (Nat.zero_le _) hi h
theorem r_closes {N : Nat} {S : Nat → Nat → Nat} {P : Nat → List Nat} {O : List Nat} (hN : N ≤ 24) (hOl : O.length = N) (hOm : ∀ s ∈ O, s < N) (hS : ∀ s b, s < N → b < N → S s b ≤ 1000) (hP : ∀ s, s < N → P s = O.filter (fun b => decide (0 < S s b))) : ∀ (f : Nat) (ab : Nat → Bool) (s u : Nat) (x : cl_T) (v : gd_D) (d : Nat) (Q : ab_O → gd_D → Prop), f + 4 ≤ d → pt_c (fun x => if ab x then 0 else 1) N ≤ f → s < N → ab s = false → hs_V x.1 → Hh x.1 1 = N → u ≤ Hs x.1 s 5 → cl_I N (cl_up ab s) x → rc_R v N S x ab O → (∀ v', fr (fx [40, 52, 55]) v v' → rc_R v' N S (cl_go P f ab s u x) ab O → Q (Sum.inl none) v') → gd_C g mX11_closes d 0 0 [zR 11 0, zI (nI s), zI (nI u)] v Q := by
  have hPm : ∀ s, s < N → ∀ b ∈ P s, b < N := fun s hs b hb => by rw [hP s hs] at hb; exact hOm b (List.mem_filter.mp hb).1
  intro f
  induction f with
  | zero =>
    intro ab s u x v d Q hd hc hs hab
    exfalso
    have := pt_c_0 (f := fun x => if ab x then 0 else 1) (f' := fun x => if cl_up ab s x then 0 else 1) (b := s) (fun z hz => by unfold cl_up; rw [decide_eq_false hz, Bool.or_false]) (by rw [hab]; decide) hs
    rw [if_neg (by rw [cl_up_at]; decide)] at this
    omega
  | succ f ihf =>
    intro ab s u x v d Q hd hc hs hab hV hn hu hI hw hQ
    have h1 := pt_c_0 (f := fun x => if ab x then 0 else 1) (f' := fun x => if cl_up ab s x then 0 else 1) (b := s) (fun z hz => by unfold cl_up; rw [decide_eq_false hz, Bool.or_false]) (by rw [hab]; decide) hs
    rw [if_neg (by rw [cl_up_at]; decide)] at h1
    have hcnt : pt_c (fun x => if cl_up ab s x then 0 else 1) N ≤ f := by omega
    have hrec := cl_go_ok hPm f (cl_up ab s) hcnt
    obtain ⟨w1, w2, w3, w4⟩ := hw
    have hsx : s < Hh x.1 1 := by rw [hn]; exact hs
    obtain ⟨s1, s2, s0, s3, s4, s5, s6⟩ := hV.2.2.2.2.2.2.2.2.1 s hsx
    have h8 := hV.1
    have hmk := hV.2.2.2.1
    refine c_X11_closes (e := f + 4) (by omega) (by omega) ?_
    unfold wp_X11_closes
    rw [nu_ln (by omega), nu_l (by omega)]
    refine r_adds (j := 5) w1 ⟨h8, by omega⟩ hsx (by omega) (nu_ladd hu) (fun v1 f1 R1 => ?_)
    have e1 : ∀ q, ¬ q = 5 → Hs (hsS x.1 s 5 (Hs x.1 s 5 - u)) s q = Hs x.1 s q := fun q hq => hsS_ne (fun z => hq z.2)
    refine r_adds (j := 8) R1 ⟨h8, by show Hh x.1 1 ≤ 24; omega⟩ hsx (by omega) (x := Hs x.1 s 8 + u) (by rw [e1 8 (by omega), lN_add]) (fun v2 f2 R2 => ?_)
    have W2 : ∀ q, q < 5 → Hs (hsS (hsS x.1 s 5 (Hs x.1 s 5 - u)) s 8 (Hs x.1 s 8 + u)) s q = Hs x.1 s q := fun q hq => (hsS_ne (fun z => by omega)).trans (e1 q (by omega))
    refine ⟨nu_in (n := 3) (by decide) (by decide), ?_⟩
    refine r_of0 (w := 3) (by omega) (by decide) (R2.2.2.2.2.1 s hsx 3 (by omega)) ?_
    rw [W2 3 (by omega), show ((3 : Int32)).toNatClampNeg = 3 from by decide, R2.1 3 (by omega)]
    rintro _ rfl
    refine c_maxJ ?_
    rw [nu_l (by omega), show lN (Hh (hsS (hsS x.1 s 5 (Hs x.1 s 5 - u)) s 8 (Hs x.1 s 8 + u)) 3) = lN (Hh x.1 3) from rfl, nu_lmax (by omega) (by omega)]
    refine r_of0 (w := 0) (by omega) (by decide) (R2.2.2.2.2.1 s hsx 0 (by omega)) ?_
    refine r_of0 (w := 1) (by omega) (by decide) (R2.2.2.2.2.1 s hsx 1 (by omega)) ?_
    rw [W2 0 (by omega), W2 1 (by omega), Int64.mul_comm]
    refine r_pays R2 h8 s1 s2 (fun v3 f3 R3 => ?_)
    refine r_of0 (w := 0) (by omega) (by decide) (R3.2.2.2.2.1 s hsx 0 (by omega)) ?_
    rw [show Hs (h_pay (hsS (hsS x.1 s 5 (Hs x.1 s 5 - u)) s 8 (Hs x.1 s 8 + u)) (Hs x.1 s 0) (Hs x.1 s 1) (lN u * lN (Hh x.1 3 - Hs x.1 s 3))) s 0 = Hs x.1 s 0 from W2 0 (by omega)]
    show vp_in ((9 : Int32) + 6 * nI (Hs x.1 s 0) + 4) 773 ∧ _
    rw [show ((9 : Int32) + 6 * nI (Hs x.1 s 0) + 4) = nI (9 + 6 * Hs x.1 s 0 + 4) from nu_d _ 4, nI_clamp (by omega)]
    refine ⟨nu_in (by omega) (by omega), ?_⟩
    rintro _ rfl
    refine ⟨nu_in (by omega) (by omega), ?_⟩
    rintro _ rfl
    rw [(R3.2.2.2.1 _ s1).2.2 4 (by omega) (by omega), show Hj (h_pay (hsS (hsS x.1 s 5 (Hs x.1 s 5 - u)) s 8 (Hs x.1 s 8 + u)) (Hs x.1 s 0) (Hs x.1 s 1) (lN u * lN (Hh x.1 3 - Hs x.1 s 3))) (Hs x.1 s 0) 4 = Hj x.1 (Hs x.1 s 0) 4 from (hsJ_ne (by omega)).trans (hsJ_ne (by omega))]
    have R4 := rm_sJ (i := Hs x.1 s 0) (j := 4) (x := Hj x.1 (Hs x.1 s 0) 4 + lN u * lN (Hh x.1 3 - Hs x.1 s 3)) R3 h8 s1 (by omega) (by omega)
    rw [← sJ_row] at R4
    refine ⟨nu_in (by omega) (by omega), ?_⟩
    rintro _ rfl
    rw [nI_clamp (by omega), show vp_nar .boolean 1 = 1 from by decide]
    have wk40 : ∀ k i j, fx [40] k i j → fx [40, 52, 55] k i j := fun k i j q => by rw [List.mem_singleton.mp q]; exact fx_y rfl
    -- the loop
    have key : ∀ (l : List Nat) (i m : Nat) (y : cl_T) (z : gd_D), (P s).drop i = l → i ≤ (P s).length → m ≤ 1000 → hs_V y.1 → Hh y.1 1 = N → cl_I N (cl_up ab s) y → fr (fx [40, 52, 55]) v z → rc_R z N S y (cl_up ab s) O → cl_loop (cl_go P f (cl_up ab s)) (cl_up ab s) s l m y = cl_go P (f + 1) ab s u x → gd_G g mX11_closes d 0 0 93 [(0, zR 11 0), (1, zI (nI s)), (5, zI (nI m)), (6, zI (nI i))] [] z Q := by
      intro l
      have hlen : (P s).length ≤ 24 := by
        rw [hP s hs]
        exact Nat.le_trans (List.length_filter_le _ _) (by omega)
      -- the end
      have fin : ∀ z : gd_D, fr (fx [40, 52, 55]) v z → rc_R z N S (cl_go P (f + 1) ab s u x) (cl_up ab s) O → wp_X11_closes_209 g d (f + 4) (nI s) z Q := by
        intro z hfz hz
        obtain ⟨z1, z2, z3, z4⟩ := hz
        refine ⟨nu_in (by omega) (by omega), ?_⟩
        rintro _ rfl
        rw [nI_clamp (by omega), show vp_nar .boolean 0 = 0 from by decide]
        refine hQ _ (hfz.tr (fr.sI (fx_y rfl))) ⟨z1, fun j hj => ?_, fun a b ha hb => ?_, fun a ha => ?_⟩
        · rw [sI_ne (by omega)]; exact z2 j hj
        · rw [sI_ne (by omega), sI_ne (by omega)]; exact z3 a b ha hb
        · by_cases e : a = s
          · subst e; rw [sI_at, hab]; rfl
          · rw [sI_ne (by omega), z4 a ha]
            unfold cl_up
            rw [decide_eq_false e, Bool.or_false]
      induction l with
      | nil =>
        intro i m y z hl hi hm hVy hny hIy hfz hz he
        have hz' := hz
        obtain ⟨z1, z2, z3, z4⟩ := hz'
        have he' : y = cl_go P (f + 1) ab s u x := he
        subst he'
        refine w_X11_closes_93 (e := f + 4) (by omega) (by omega) ⟨fun _ => fin z hfz hz, fun _ => ?_⟩
        refine r_partAt (O := O) (U := S s) (Nat.le_refl 3) (by omega) z1 (by omega) z2 (by omega) (fun a ha => by rw [hny]; exact hOm a ha) (by omega) (fun b hb => ⟨(z3 s b hs (by omega)).1, hS s b hs (by omega)⟩) ?_
        rw [← hP s hs, drop_no hl]
        exact ⟨fun _ => fin z hfz hz, fun hc => absurd rfl hc⟩
      | cons b l ih =>
        intro i m y z hl hi hm hVy hny hIy hfz hz he
        have hz' := hz
        obtain ⟨z1, z2, z3, z4⟩ := hz'
        obtain ⟨hi2, -, hl2, hmem⟩ := drop_at hl
        have hb : b < N := hPm s hs b hmem
        rw [cl_loop_c] at he
        refine w_X11_closes_93 (e := f + 4) (by omega) (by omega) (pk_le m 0 (fun hm0 => ?_) (fun hm0 => ?_) rfl rfl (by omega) (by omega))
        · rw [if_pos (by omega)] at he
          subst he
          exact fin z hfz hz
        · rw [if_neg (by omega)] at he
          have pa : ∀ {Q : ab_O → gd_D → Prop}, Q (Sum.inl (some (zI (nI b)))) z → gd_C g mX11_partAt 3 0 0 [zR 11 0, zI (nI s), zI (nI i)] z Q := by
            intro Q hq
            refine r_partAt (O := O) (U := S s) (Nat.le_refl 3) (by omega) z1 (by omega) z2 (by omega) (fun a ha => by rw [hny]; exact hOm a ha) (by omega) (fun b hb => ⟨(z3 s b hs (by omega)).1, hS s b hs (by omega)⟩) ?_
            rw [← hP s hs, drop_hd hl]
            exact hq
          refine pa ⟨fun hc => absurd hc (nu_m1 (by omega)), fun _ => pa ⟨nu_in (by omega) (by omega), ?_⟩⟩
          rw [nI_clamp (by omega), z4 b (by omega)]
          refine ⟨fun hc => ?_, fun hc => ?_⟩
          · have hab2 := b2_0 hc
            rw [hab2, if_neg Bool.false_ne_true] at he
            obtain ⟨q1, w, q2, q3⟩ := z3 s b hs hb
            have hSb := hS s b hs hb
            rw [nu_24, nI_clamp (by omega), q1, q2]
            refine ⟨nu_in (by omega) (by omega), ?_⟩
            rintro _ rfl
            refine ⟨nu_in (by omega) (by omega), ?_⟩
            rintro _ rfl
            rw [nu_sub (by omega), show S s b - w = y.2 s b from by omega]
            refine c_minI ?_
            rw [nu_min (by omega) (by omega)]
            refine ⟨fun hn0 => ?_, fun hn0 => ?_⟩
            · have hpos : ¬ min m (y.2 s b) = 0 := fun e => hn0 (by rw [e]; rfl)
              rw [if_neg hpos] at he
              refine ⟨nu_in (by omega) (by omega), ?_⟩
              rintro _ rfl
              refine ⟨nu_in (by omega) (by omega), ?_⟩
              rintro _ rfl
              rw [q2, nI_add]
              have hle : min m (y.2 s b) ≤ y.2 s b := Nat.min_le_right _ _
              obtain ⟨o1, o2⟩ := cl_step_ok hs hb hab2 hIy hle
              obtain ⟨r1, r2⟩ := hrec b (min m (y.2 s b)) (y.1, cl_sub y.2 s b (min m (y.2 s b))) hb hab2 hVy o1 o2
              have B1 : cl_B N y (cl_go P f (cl_up ab s) b (min m (y.2 s b)) (y.1, cl_sub y.2 s b (min m (y.2 s b)))) := by
                intro c hc
                have q1 := r2 c hc
                have q2 := cl_col_sub (c := c) hle N
                have q1' : Hs (cl_go P f (cl_up ab s) b (min m (y.2 s b)) (y.1, cl_sub y.2 s b (min m (y.2 s b)))).1 c 5 + cl_col (cl_sub y.2 s b (min m (y.2 s b))) c N + (if c = b then min m (y.2 s b) else 0) = Hs y.1 c 5 + cl_col (cl_go P f (cl_up ab s) b (min m (y.2 s b)) (y.1, cl_sub y.2 s b (min m (y.2 s b)))).2 c N := q1
                by_cases e : c = b
                · rw [if_pos e] at q1'
                  rw [if_pos ⟨hs, e⟩] at q2
                  omega
                · rw [if_neg e] at q1'
                  rw [if_neg (fun q => e q.2)] at q2
                  omega
              refine ihf (cl_up ab s) b (min m (y.2 s b)) (y.1, cl_sub y.2 s b (min m (y.2 s b))) _ (f + 4) _ (Nat.le_refl _) hcnt hb hab2 hVy hny o1 o2 ⟨z1, fun j hj => ?_, fun a c ha hc2 => ?_, fun a ha => ?_⟩ (fun v11 f11 R11 => ?_)
              · rw [sI_ne (by omega)]; exact z2 j hj
              · rw [sI_ne (by omega)]
                obtain ⟨p1, w', p2, p3⟩ := z3 a c ha hc2
                refine ⟨p1, ?_⟩
                show ∃ w, _ ∧ w + (if a = s ∧ c = b then y.2 s b - min m (y.2 s b) else y.2 a c) = S a c
                by_cases e : a = s ∧ c = b
                · obtain ⟨rfl, rfl⟩ := e
                  refine ⟨w + min m (y.2 a c), sI_at, ?_⟩
                  rw [if_pos ⟨rfl, rfl⟩]; omega
                · refine ⟨w', ?_, by rw [if_neg e]; exact p3⟩
                  rw [sI_ne (by omega)]; exact p2
              · rw [sI_ne (by omega)]; exact z4 a ha
              · rw [gd_rV_at, nu_sub (Nat.min_le_left _ _), nu_1]
                refine ih (i + 1) (m - min m (y.2 s b)) _ v11 hl2 (by omega) (by omega) r1.2.1 ?_ (hIy.b B1) ((hfz.tr (fr.sI (fx_y rfl))).tr f11) R11 he
                rw [r1.1]; exact hny
            · have hz0 : min m (y.2 s b) = 0 := (nI_eq (b := 0) (by omega) (by omega)).mp hn0
              rw [if_pos hz0] at he
              rw [nu_1]
              exact ih (i + 1) m y z hl2 (by omega) hm hVy hny hIy hfz hz he
          · rw [b2_1 hc, if_pos rfl] at he
            rw [nu_1]
            exact ih (i + 1) m y z hl2 (by omega) hm hVy hny hIy hfz hz he
    have K0 : cl_K N x (h_close x.1 s u, x.2) := cl_K_close hV hu
    refine key (P s) 0 u (h_close x.1 s u, x.2) _ rfl (Nat.zero_le _) (by omega) K0.2.1 hn ?_ (((((f1.wk wk40).tr (f2.wk wk40)).tr (f3.wk wk40)).tr (fr.sJ (fx_y rfl))).tr (fr.sI (fx_y rfl))) ⟨R4, fun j hj => ?_, fun a c ha hc2 => ?_, fun a ha => ?_⟩ rfl
    · intro c hc hcab
      have hcb : ¬ c = s := fun e => by rw [e, cl_up_at] at hcab; exact absurd hcab (by decide)
      show cl_col x.2 c N ≤ Hs (h_close x.1 s u) c 5
      rw [h_close_n (by omega) (by omega)]
      exact hI c hc hcab
    · rw [sI_ne (by omega), show ∀ a b c q, (gd_sJ v3 40 0 a b).1 47 c q = v3.1 47 c q from fun _ _ _ _ => rfl, f3.I (fun _ => fx_n rfl), f2.I (fun _ => fx_n rfl), f1.I (fun _ => fx_n rfl)]; exact w2 j hj
    · rw [sI_ne (by omega), sI_ne (by omega), show ∀ a b c q, (gd_sJ v3 40 0 a b).1 51 c q = v3.1 51 c q from fun _ _ _ _ => rfl, show ∀ a b c q, (gd_sJ v3 40 0 a b).1 52 c q = v3.1 52 c q from fun _ _ _ _ => rfl, f3.I (fun _ => fx_n rfl), f2.I (fun _ => fx_n rfl), f1.I (fun _ => fx_n rfl), f3.I (fun _ => fx_n rfl), f2.I (fun _ => fx_n rfl), f1.I (fun _ => fx_n rfl)]
      exact w3 a c ha hc2
    · by_cases e : a = s
      · subst e; rw [sI_at, cl_up_at]; rfl
      · rw [sI_ne (by omega), show ∀ a b c q, (gd_sJ v3 40 0 a b).1 55 c q = v3.1 55 c q from fun _ _ _ _ => rfl, f3.I (fun _ => fx_n rfl), f2.I (fun _ => fx_n rfl), f1.I (fun _ => fx_n rfl), w4 a ha]
        unfold cl_up
        rw [decide_eq_false e, Bool.or_false]
end RC
