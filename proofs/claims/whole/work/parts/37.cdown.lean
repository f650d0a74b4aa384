/-! A BUY-IN GOES DOWN, the class's side -/
theorem nd_inj {l : List Nat} (hn : l.Nodup) {i j : Nat} (hi : i < l.length) (hj : j < l.length) (h : l.getD i 0 = l.getD j 0) : i = j := by
  rw [List.getD_eq_getElem?_getD, List.getD_eq_getElem?_getD, List.getElem?_eq_getElem hi, List.getElem?_eq_getElem hj] at h
  have hp := List.pairwise_iff_getElem.mp hn
  rcases Nat.lt_trichotomy i j with q | q | q
  · exact absurd h (hp i j hi hj q)
  · exact q
  · exact absurd h.symm (hp j i hj hi q)
/-- the class's world on a way down -/
def cc_R (v : gd_D) (h p N : Nat) (P : Nat → List Nat) (st : Nat → Nat) (x : cl_T) : Prop :=
  cr_R v h x.1 ∧ (∀ s, s < N → v.1 24 p s = nI (st s) ∧ v.1 25 p s = nI (P s).length ∧ st s + (P s).length ≤ 48 ∧ ∀ j, j < (P s).length → v.1 26 p (st s + j) = nI ((P s).getD j 0) ∧ v.1 29 p (st s + j) = nI (x.2 s ((P s).getD j 0))) ∧
  ∀ s s', s < N → s' < N → ¬ s = s' → st s + (P s).length ≤ st s' ∨ st s' + (P s').length ≤ st s
def fc (h p k i j : Nat) : Prop := fh h k i j ∨ (k = 29 ∧ i = p)
theorem fc_n {h p k i j : Nat} (h1 : ¬ k = 2) (h2 : ¬ k = 0) (h3 : ¬ k = 9) (h4 : ¬ k = 29) : ¬ fc h p k i j := fun q => by rcases q with (q | q | q) | q <;> omega
theorem cr_R.far' {X : Nat → Nat → Nat → Prop} {v v' : gd_D} {h : Nat} {H : hs_T} (hR : cr_R v h H) (hW : hs_V H) (hf : fr X v v') (h2 : ∀ i j, ¬ X 2 i j) (h0 : ∀ i j, ¬ X 0 i j) (h9 : ∀ i j, ¬ X 9 i j) (h15 : ∀ i j, ¬ X 15 i j) : cr_R v' h H :=
  hR.kept hW.1 hW.2.1 ⟨hf.I (h2 h), hf.J (h2 h)⟩ (fun i _ => ⟨hf.I (h0 _), hf.J (h0 _)⟩) (fun i _ => hf.I (h9 _)) hf.2 (hf.I (h15 _))
section CDn
variable {g : ab_E}
theorem cc_R.h {v v' : gd_D} {h p N : Nat} {P : Nat → List Nat} {st : Nat → Nat} {x : cl_T} {H' : hs_T} (hc : cc_R v h p N P st x) (hf : fr (fh h) v v') (hR : cr_R v' h H') : cc_R v' h p N P st (H', x.2) := by
  obtain ⟨c1, c2, c3⟩ := hc
  have fI : ∀ k i, ¬ k = 2 → ¬ k = 0 → ¬ k = 9 → v'.1 k i = v.1 k i := fun k i a b c => hf.I (fun _ => fh_n a b c)
  refine ⟨hR, fun s hs => ?_, c3⟩
  obtain ⟨a1, a2, a3, a4⟩ := c2 s hs
  rw [fI 24 p (by decide) (by decide) (by decide), fI 25 p (by decide) (by decide) (by decide), fI 26 p (by decide) (by decide) (by decide), fI 29 p (by decide) (by decide) (by decide)]
  exact ⟨a1, a2, a3, a4⟩
theorem k_closeDown {h p N : Nat} {P : Nat → List Nat} {st : Nat → Nat} (hN : N ≤ 24) (hPm : ∀ s, s < N → ∀ b ∈ P s, b < N) (hPn : ∀ s, s < N → (P s).Nodup) : ∀ (f : Nat) (ab : Nat → Bool) (w : Int32) (s u : Nat) (x : cl_T) (v : gd_D) (d : Nat) (Q : ab_O → gd_D → Prop), f + 4 ≤ d → f ≤ 24 → pt_c (fun x => if ab x then 0 else 1) N ≤ f → (∀ z, z < 24 → bt w z = ab z) → s < N → ab s = false → hs_V x.1 → Hh x.1 1 = N → u ≤ Hs x.1 s 5 → (∀ s b, x.2 s b ≤ 1000) → cl_I N (cl_up ab s) x → cc_R v h p N P st x → (∀ v', fr (fc h p) v v' → cc_R v' h p N P st (cl_go P f ab s u x) → Q (Sum.inl none) v') → gd_C g mX6_closeDown d 0 0 [zR 6 p, zR 2 h, zI (nI s), zI (nI u), zI w, zI (nI (24 - f))] v Q := by
  intro f
  induction f with
  | zero =>
    intro ab w s u x v d Q hd hf hc hw hs hab
    exfalso
    have := pt_c_0 (f := fun x => if ab x then 0 else 1) (f' := fun x => if cl_up ab s x then 0 else 1) (b := s) (fun z hz => by unfold cl_up; rw [decide_eq_false hz, Bool.or_false]) (by rw [hab]; decide) hs
    rw [if_neg (by rw [cl_up_at]; decide)] at this
    omega
  | succ f ihf =>
    intro ab w s u x v d Q hd hf hc hw hs hab hV hn hu hG hI hcc hQ
    have h1 := pt_c_0 (f := fun x => if ab x then 0 else 1) (f' := fun x => if cl_up ab s x then 0 else 1) (b := s) (fun z hz => by unfold cl_up; rw [decide_eq_false hz, Bool.or_false]) (by rw [hab]; decide) hs
    rw [if_neg (by rw [cl_up_at]; decide)] at h1
    have hcnt : pt_c (fun x => if cl_up ab s x then 0 else 1) N ≤ f := by omega
    have hrec := cl_go_ok hPm f (cl_up ab s) hcnt
    have hsx : s < Hh x.1 1 := by rw [hn]; exact hs
    have hs5 := hs_S5 (hV.2.2.2.2.2.2.2.2.1 s hsx)
    have hs2 := (hV.2.2.2.2.2.2.2.2.1 s hsx).2.2.2.1
    have hw2 : ∀ z, z < 24 → bt (w ||| (1 <<< (nI s &&& 31))) z = cl_up ab s z := by
      intro z hz
      rw [bt_or, hw z hz, bt_one s (by omega) z (by omega)]; rfl
    refine c_X6_closeDown (e := f + 4) (by omega) (by omega) ?_
    refine ⟨fun _ => ?_, fun hc2 => absurd (by rw [show (24 : Int32) = nI 24 from rfl]; exact nI_lt (by omega) (by omega)) hc2⟩
    refine k_close (Nat.le_refl 3) hcc.1 hV hsx hu (fun v1 f1 R1 => ?_)
    have hcc1 := hcc.h f1 R1
    obtain ⟨a1, a2, a3, a4⟩ := hcc1.2.1 s hs
    rw [gd_rV_at, nI_clamp (by omega), a1, a2, nI_add]
    refine ⟨nu_in (by omega) (by omega), nu_in (by omega) (by omega), ?_⟩
    rintro _ rfl
    refine ⟨nu_in (by omega) (by omega), ?_⟩
    have key : ∀ (l : List Nat) (i m : Nat) (y : cl_T) (z : gd_D), (P s).drop i = l → i ≤ (P s).length → m ≤ 1000 → hs_V y.1 → Hh y.1 1 = N → (∀ s b, y.2 s b ≤ 1000) → cl_I N (cl_up ab s) y → fr (fc h p) v z → cc_R z h p N P st y → cl_loop (cl_go P f (cl_up ab s)) (cl_up ab s) s l m y = cl_go P (f + 1) ab s u x → gd_G g mX6_closeDown d 0 0 48 [(0, zR 6 p), (1, zR 2 h), (5, zI (nI (24 - (f + 1)))), (6, zI (w ||| (1 <<< (nI s &&& 31)))), (7, zI (nI m)), (8, zI (nI (st s + (P s).length))), (9, zI (nI (st s + i)))] [] z Q := by
      intro l
      induction l with
      | nil =>
        intro i m y z hl hi hm hVy hny hGy hIy hfz hz he
        have ei := drop_end hl hi
        have he' : y = cl_go P (f + 1) ab s u x := he
        subst he'
        exact w_X6_closeDown_48 (e := f + 4) (by omega) (by omega) (pk_le (st s + (P s).length) (st s + i) (fun _ => hQ z hfz hz) (fun q => absurd q (by omega)) rfl rfl (by omega) (by omega))
      | cons b l ih =>
        intro i m y z hl hi hm hVy hny hGy hIy hfz hz he
        have hz' := hz
        obtain ⟨z1, z2, z3⟩ := hz'
        obtain ⟨hi2, hb0, hl2, hmem⟩ := drop_at hl
        have hb : b < N := hPm s hs b hmem
        obtain ⟨-, -, b3, b4⟩ := z2 s hs
        obtain ⟨b5, b6⟩ := b4 i hi2
        rw [hb0] at b5 b6
        have hGb := hGy s b
        rw [cl_loop_c] at he
        refine w_X6_closeDown_48 (e := f + 4) (by omega) (by omega) (pk_le (st s + (P s).length) (st s + i) (fun q => absurd q (by omega)) (fun _ => pk_le m 0 (fun hm0 => ?_) (fun hm0 => ⟨nu_in (by omega) (by omega), ?_⟩) rfl rfl (by omega) (by omega)) rfl rfl (by omega) (by omega))
        · rw [if_pos (by omega)] at he
          subst he
          exact hQ z hfz hz
        · rw [if_neg (by omega)] at he
          rw [nI_clamp (by omega), b6]
          refine c_minI ?_
          rw [nu_min (by omega) (by omega)]
          have skip : cl_loop (cl_go P f (cl_up ab s)) (cl_up ab s) s l m y = cl_go P (f + 1) ab s u x → gd_G g mX6_closeDown d 0 0 48 [(0, zR 6 p), (1, zR 2 h), (5, zI (nI (24 - (f + 1)))), (6, zI (w ||| (1 <<< (nI s &&& 31)))), (7, zI (nI m)), (8, zI (nI (st s + (P s).length))), (9, zI (nI (st s + i) + 1))] [] z Q := by
            intro he2
            rw [nu_1, Nat.add_assoc]
            exact ih (i + 1) m y z hl2 (by omega) hm hVy hny hGy hIy hfz hz he2
          refine pk_le (min m (y.2 s b)) 0 (fun hn0 => skip ?_) (fun hn0 => ⟨nu_in (by omega) (by omega), ?_⟩) rfl rfl (by omega) (by omega)
          · by_cases e : cl_up ab s b = true
            · rw [if_pos e] at he; exact he
            · rw [if_neg e, if_pos (by omega)] at he; exact he
          · rintro _ rfl
            rw [b5]
            have tst := bt_test (w := w ||| (1 <<< (nI s &&& 31))) (z := b) (by omega)
            rw [hw2 b (by omega)] at tst
            refine ⟨fun hc2 => skip ?_, fun hc2 => ?_⟩
            · cases e : cl_up ab s b with
              | false => exact absurd (tst.mpr e) hc2
              | true => rw [e, if_pos rfl] at he; exact he
            · have hab2 := tst.mp hc2
              rw [hab2, if_neg Bool.false_ne_true, if_neg (by omega)] at he
              refine ⟨nu_in (by omega) (by omega), nu_in (by omega) (by omega), ?_⟩
              rintro _ rfl
              rw [b6, nu_sub (Nat.min_le_right _ _)]
              refine ⟨nu_in (by omega) (by omega), ?_⟩
              rw [sI_ne (by omega), b5, nu_1]
              have hle : min m (y.2 s b) ≤ y.2 s b := Nat.min_le_right _ _
              obtain ⟨o1, o2⟩ := cl_step_ok hs hb hab2 hIy hle
              obtain ⟨r1, r2⟩ := hrec b (min m (y.2 s b)) (y.1, cl_sub y.2 s b (min m (y.2 s b))) hb hab2 hVy o1 o2
              have B1 : cl_B N y (cl_go P f (cl_up ab s) b (min m (y.2 s b)) (y.1, cl_sub y.2 s b (min m (y.2 s b)))) := by
                intro c hc
                have q1 := r2 c hc
                have q2 := cl_col_sub (c := c) hle N
                have q1' : Hs (cl_go P f (cl_up ab s) b (min m (y.2 s b)) (y.1, cl_sub y.2 s b (min m (y.2 s b)))).1 c 5 + cl_col (cl_sub y.2 s b (min m (y.2 s b))) c N + (if c = b then min m (y.2 s b) else 0) = Hs y.1 c 5 + cl_col (cl_go P f (cl_up ab s) b (min m (y.2 s b)) (y.1, cl_sub y.2 s b (min m (y.2 s b)))).2 c N := q1
                by_cases e : c = b
                · rw [if_pos e] at q1'
                  rw [if_pos ⟨hs, e⟩] at q2
                  omega
                · rw [if_neg e] at q1'
                  rw [if_neg (fun q => e q.2)] at q2
                  omega
              have Ks := cl_K_sub (N := N) (s := s) (b := b) (n := min m (y.2 s b)) hVy
              have e24 : 24 - (f + 1) + 1 = 24 - f := by omega
              rw [e24]
              refine ihf (cl_up ab s) (w ||| (1 <<< (nI s &&& 31))) b (min m (y.2 s b)) (y.1, cl_sub y.2 s b (min m (y.2 s b))) _ (f + 4) _ (Nat.le_refl _) (by omega) hcnt hw2 hb hab2 hVy hny o1 (fun a c => Nat.le_trans (Ks.2.2.2.1 a c) (hGy a c)) o2 ⟨?_, fun a ha => ?_, z3⟩ (fun v5 f5 R5 => ?_)
              · exact z1.far' hVy (fr.sI (X := fy [(29, p)]) (fy_y 0 rfl)) (fun _ _ => fy_n rfl) (fun _ _ => fy_n rfl) (fun _ _ => fy_n rfl) (fun _ _ => fy_n rfl)
              · obtain ⟨d1, d2, d3, d4⟩ := z2 a ha
                rw [sI_ne (by omega), sI_ne (by omega)]
                refine ⟨d1, d2, d3, fun j hj => ?_⟩
                rw [sI_ne (by omega)]
                refine ⟨(d4 j hj).1, ?_⟩
                show _ = nI (if a = s ∧ (P a).getD j 0 = b then y.2 s b - min m (y.2 s b) else y.2 a ((P a).getD j 0))
                by_cases e : a = s
                · subst e
                  by_cases e2 : j = i
                  · subst e2
                    rw [sI_at, if_pos ⟨rfl, hb0⟩]
                  · rw [sI_ne (by omega), if_neg (fun q => e2 (nd_inj (hPn a ha) hj hi2 (q.2.trans hb0.symm)))]
                    exact (d4 j hj).2
                · rw [if_neg (fun q => e q.1)]
                  have := z3 a s ha hs e
                  rw [sI_ne (by omega)]
                  exact (d4 j hj).2
              · rw [gd_rV_at, nu_sub (Nat.min_le_left _ _), nu_1, Nat.add_assoc]
                refine ih (i + 1) (m - min m (y.2 s b)) _ v5 hl2 (by omega) (by omega) r1.2.1 ?_ (fun a c => Nat.le_trans (r1.2.2.2.1 a c) (Nat.le_trans (Ks.2.2.2.1 a c) (hGy a c))) (hIy.b B1) ((hfz.tr (fr.sI (Or.inr ⟨rfl, rfl⟩))).tr f5) R5 he
                rw [r1.1]; exact hny
    have K0 : cl_K N x (h_close x.1 s u, x.2) := cl_K_close hV hu
    refine key (P s) 0 u (h_close x.1 s u, x.2) _ rfl (Nat.zero_le _) (by omega) K0.2.1 hn hG ?_ (f1.wk (fun k i j q => Or.inl q)) hcc1 rfl
    intro c hc hcab
    have hcb : ¬ c = s := fun e => by rw [e, cl_up_at] at hcab; exact absurd hcab (by decide)
    show cl_col x.2 c N ≤ Hs (h_close x.1 s u) c 5
    rw [h_close_n (by omega) (by omega)]
    exact hI c hc hcab
end CDn
