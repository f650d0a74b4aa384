/-! TEXT, the class's side: the whole tape is read -/
section KTP
variable {g : ab_E} {d : Nat} {v : gd_D} {Q : ab_O → gd_D → Prop} {T : Nat → Int32} {n m : Nat}
theorem pLine_7 {p q : Nat} {u u' : uT} (hw : ¬ wi T n p = 6) (h : pLine T n p u = Sum.inr (q, u')) : u'.2 7 = u.2 7 := by
  have one : ∀ j lo hx, ¬ j = 7 → pOne T n j lo hx p u = Sum.inr (q, u') → u'.2 7 = u.2 7 := by
    intro j lo hx hj h
    unfold pOne at h
    split at h
    · cases h
    · cases hN : pNum T n lo hx none (nx T n p) with
      | inl e => rw [hN] at h; cases h
      | inr w =>
        rw [hN] at h
        cases h
        exact su_ne (fun q => hj q.symm)
  unfold pLine at h
  split at h
  · unfold pDeal at h
    split at h
    · cases h
    · cases hN : pNum T n 0 10000 none (nx T n p) with
      | inl e => rw [hN] at h; cases h
      | inr w => rw [hN] at h; cases h; rfl
  · split at h
    · unfold pSale at h
      split at h
      · cases h
      · cases h1 : pNum T n 0 (Hh u.1 0) none (nx T n p) with
        | inl e => rw [h1] at h; cases h
        | inr w1 =>
          obtain ⟨a, q1⟩ := w1
          rw [h1, nb_r] at h
          cases h2 : pNum T n 0 (Hh u.1 0) (some a) q1 with
          | inl e => rw [h2] at h; cases h
          | inr w2 =>
            obtain ⟨b, q2⟩ := w2
            rw [h2, nb_r] at h
            cases h3 : pNum T n 1 1001 none q2 with
            | inl e => rw [h3] at h; cases h
            | inr w3 =>
              obtain ⟨c, q3⟩ := w3
              rw [h3, nb_r] at h
              cases h4 : pNum T n 1 10001 none q3 with
              | inl e => rw [h4] at h; cases h
              | inr w4 =>
                obtain ⟨e, q4⟩ := w4
                rw [h4, nb_r] at h
                cases h5 : pNum T n 0 1000 none q4 with
                | inl e => rw [h5] at h; cases h
                | inr w5 => rw [h5] at h; cases h; rfl
    · split at h
      · exact one 4 0 1000 (by omega) h
      · split at h
        · exact one 5 1 101 (by omega) h
        · split at h
          · exact one 6 0 31 (by omega) h
          · split at h
            · exact one 3 1 10001 (by omega) h
            · cases h
theorem pLine_6 {p q : Nat} {u u' : uT} (hw : wi T n p = 6) (h : pLine T n p u = Sum.inr (q, u')) : u'.2 7 = true := by
  unfold pLine at h
  rw [if_neg (by omega), if_neg (by omega), if_neg (by omega), if_neg (by omega), if_neg (by omega), if_neg (by omega), if_pos hw] at h
  unfold pRule at h
  split at h
  · cases h
  · cases hx : pS T n (pF T n 5) (nx T n p) [] with
    | inl e => rw [hx] at h; cases h
    | inr q => rw [hx] at h; cases h; show su u.2 7 7 = true; exact su_at
theorem k_tapeLoop (hd : 42 ≤ d) (hn5 : n ≤ 500) : ∀ (k i p b c : Nat) (u : uT) (v0 : gd_D), i + k = n → i ≤ p → stt T n p → kU v0 T n m (Sum.inr (p, u)) → uOK u → (u.2 7 = false → 1 ≤ b ∧ 500 ≤ c) → (∀ v' x, x = pTx T n k p u → frL v0 v' → kU v' T n m x → Q (Sum.inl none) v') → gd_G g mX7_readTape d b c 51 [(0, zR 7 0), (2, zI (nI i))] [] v0 Q := by
  intro k
  induction k with
  | zero =>
    intro i p b c u v0 hi hip hst hU hu hb hq
    have fin : Q (Sum.inl none) v0 := hq v0 _ rfl frL.rf hU
    obtain ⟨hP, hR, hs, hc⟩ := hU
    obtain ⟨ht, k, hk, hk2, e3, e4, e5⟩ := id hP
    have hm := ht.2.1
    have ep : p = n := by have := hst.1; omega
    obtain ⟨t1, t2, t3⟩ := ht.2.2.2.2.2 k hk
    have e5 : PS T n k = p := e5
    rw [e5] at t1
    refine w_X7_readTape_51 (by omega) ⟨fun _ => fin, fun _ => ?_⟩
    rw [hk2, nI_clamp (by omega), t1, show (0 : Int32) = nI 0 from rfl, nI_eq (by have := tk_le (T := T) (n := n) (p := p); omega) (by omega)]
    refine ⟨nu_in (by omega) (by omega), fun _ => fin, fun z => absurd ?_ z⟩
    unfold tk; rw [if_pos (by omega)]
  | succ k ih =>
    intro i p b c u v0 hi hip hst hU hu hb hq
    obtain ⟨hP, hR, hs, hc⟩ := id hU
    obtain ⟨ht, k0, hk, hk2, e3, e4, e5⟩ := id hP
    have hm := ht.2.1
    obtain ⟨t1, t2, t3⟩ := ht.2.2.2.2.2 k0 hk
    have e5 : PS T n k0 = p := e5
    rw [e5] at t1
    have hk3 := tk_le (T := T) (n := n) (p := p)
    refine w_X7_readTape_51 (by omega) (pk_le 500 i (fun q => absurd q (by omega)) (fun _ => ?_) rfl rfl (by omega) (by omega))
    rw [hk2, nI_clamp (by omega), t1, show (0 : Int32) = nI 0 from rfl, nI_eq (by omega) (by omega)]
    refine ⟨nu_in (by omega) (by omega), fun z => hq v0 _ rfl frL.rf ?_, fun z => ⟨fun z2 => absurd e3 z2, fun _ => ?_⟩⟩
    · have : ¬ p < n := fun q => by
        unfold tk at z
        rw [if_neg (by omega)] at z
        split at z
        · omega
        · split at z <;> omega
      show kU v0 T n m (if p < n then _ else Sum.inr (p, u))
      rw [if_neg this]; exact hU
    · have hlt := tk_lt (T := T) (n := n) (p := p) rfl z
      have est : pTx T n (k + 1) p u = (match pLine T n p u with
        | Sum.inl e => Sum.inl e
        | Sum.inr q => (match yG T n 59 q.1 with
          | Sum.inl e => Sum.inl e
          | Sum.inr q' => pTx T n k q' q.2)) := if_pos hlt
      have hg := pLine_g hst hlt hn5 hu
      have main : ∀ my sy, my ≤ b → sy ≤ c → (wi T n p = 6 → u.2 7 = false → 1 ≤ my ∧ 500 ≤ sy) → (∀ q u', pLine T n p u = Sum.inr (q, u') → u'.2 7 = false → 1 ≤ b - my ∧ 500 ≤ c - sy) → gd_C g mX7_readLine 41 my sy [zR 7 0] v0 (gd_rV (fun v1 => gd_C g mX7_take 3 0 0 [zR 7 0, zI 59] v1 (gd_rV (fun v3 => gd_G g mX7_readTape d (b - my) (c - sy) 51 [(0, zR 7 0), (2, zI (nI i + 1))] [] v3 Q) (fun E v9 => Q (Sum.inr E) v9))) (fun E v9 => Q (Sum.inr E) v9)) := by
        intro my sy hmy hsy hb1 hb2
        refine k_readLine (Nat.le_refl 41) hP hlt hst hR hs hc hu hb1 (fun v1 f1 U1 => ?_)
        rw [gd_rV_at, nu_1]
        have dead : ∀ (e : Nat × Nat) (w : gd_D), frL v0 w → kP w T n m (Sum.inl e) → pTx T n (k + 1) p u = Sum.inl e → gd_G g mX7_readTape d (b - my) (c - sy) 51 [(0, zR 7 0), (2, zI (nI (i + 1)))] [] w Q := by
          intro e w fw Pw ee
          have fin : Q (Sum.inl none) w := hq w _ ee.symm fw Pw
          obtain ⟨ht, k, hk, hk2, -⟩ := id Pw
          have hm := ht.2.1
          refine w_X7_readTape_51 (by omega) ⟨fun _ => fin, fun _ => ?_⟩
          rw [hk2]
          exact ⟨nu_in (by omega) (by omega), fun _ => fin, fun _ => ⟨fun _ => fin, fun z => absurd z Pw.dead⟩⟩
        cases hx : pLine T n p u with
        | inl e =>
          rw [hx] at U1 est
          have U1 : kP v1 T n m (Sum.inl e) := U1
          refine k_take (by decide) (by decide) (Nat.le_refl 3) U1 (fun v3 f3 P3 => ?_)
          rw [gd_rV_at]
          exact dead e v3 (f1.tr (fA_L f3)) P3 est
        | inr qu =>
          obtain ⟨q, u'⟩ := qu
          rw [hx] at U1 est hg
          obtain ⟨P1, R1, S1, C1⟩ := U1
          obtain ⟨g1, g2, g3⟩ := hg
          have g1 : p < q := g1
          refine k_take (by decide) (by decide) (Nat.le_refl 3) P1 (fun v3 f3 P3 => ?_)
          rw [gd_rV_at]
          have P3 : kP v3 T n m (yG T n 59 q) := P3
          cases hy : yG T n 59 q with
          | inl e =>
            rw [hy] at P3
            have est : pTx T n (k + 1) p u = (match yG T n 59 q with
              | Sum.inl e => Sum.inl e
              | Sum.inr q' => pTx T n k q' u') := est
            rw [hy] at est
            exact dead e v3 (f1.tr (fA_L f3)) P3 est
          | inr q' =>
            rw [hy] at P3
            have est : pTx T n (k + 1) p u = (match yG T n 59 q with
              | Sum.inl e => Sum.inl e
              | Sum.inr q' => pTx T n k q' u') := est
            rw [hy] at est
            have hq' : q < n ∧ q' = nx T n q := by
              unfold yG at hy
              split at hy
              · rename_i hc; cases hy; exact ⟨hc.1, rfl⟩
              · cases hy
            have hnx := nx_sp (T := T) hq'.1
            rw [← hq'.2] at hnx
            refine ih (i + 1) q' (b - my) (c - sy) u' v3 (by omega) (by omega) hnx.2 ⟨P3, R1.fq g3.1 (f3.wk fA_Q), S1.A (f3.wk fA_Q), C1.A f3⟩ g3 (hb2 q u' hx) (fun v' x ex fv Uv => hq v' x (by rw [ex, est]) ((f1.tr (fA_L f3)).tr fv) Uv)
      by_cases hw : wi T n p = 6
      · refine ⟨b, c, ⟨Nat.le_refl _, Nat.le_refl _⟩, main b c (Nat.le_refl _) (Nat.le_refl _) (fun _ h => hb h) (fun q u' hx h => ?_)⟩
        rw [pLine_6 hw hx] at h; cases h
      · refine ⟨0, 0, ⟨Nat.zero_le _, Nat.zero_le _⟩, main 0 0 (Nat.zero_le _) (Nat.zero_le _) (fun h => absurd h hw) (fun q u' hx h => ?_)⟩
        rw [pLine_7 hw hx] at h
        have := hb h
        omega
def pText (T : Nat → Int32) (n : Nat) : rL := pTx T n n (rn isB T n 0) (h_0, fun _ => false)
/-- the tape is read -/
theorem k_readTape {B : Nat} (hd : 42 ≤ d) (hB : v.1 7 0 2 = nI B) (hB5 : B ≤ 500) (hnB : n ≤ B) (hT : ∀ j, j < n → v.1 31 0 j = T j) (hnc : 0 < v.2.2.2.1) (hl0 : v.2.2.2.2.1 0 = 0) (hQ : ∀ v' m, (∀ k i j, ¬ (fS k i j ∨ (k = 7 ∧ i = 0 ∧ (j = 2)) ∨ XL v.2.2.2.1 k i j) → v'.1 k i j = v.1 k i j ∧ v'.2.1 k i j = v.2.1 k i j) → (∀ x, ¬ x = 0 → v'.2.2.1 x = v.2.2.1 x) → v.2.2.2.1 ≤ v'.2.2.2.1 → (∀ i, i < v.2.2.2.1 → v'.2.2.2.2.1 i = v.2.2.2.2.1 i) → v'.2.2.2.2.2 = v.2.2.2.2.2 → v'.1 7 0 2 = 0 → kU v' T n m (pText T n) → Q (Sum.inl none) v') : gd_C g mX7_readTape d 1 500 [zR 7 0, zI (nI n)] v Q := by
  refine c_X7_readTape (by omega) ?_
  unfold wp_X7_readTape
  rw [hB]
  refine c_minI ?_
  rw [nu_min (by omega) (by omega), Nat.min_eq_left hnB, gd_rI_at]
  refine k_splitTape (Nat.le_refl 10) hT (by omega) (fun v1 m f1 t1 => ?_)
  rw [gd_rV_at]
  rintro _ rfl _ rfl _ rfl _ rfl _ rfl v9 h9
  have i9 : ∀ k i j, ¬ (k = 7 ∧ i = 0 ∧ (j = 2 ∨ j = 3 ∨ j = 4 ∨ j = 11 ∨ j = 12 ∨ j = 9)) → v9.1 k i j = v1.1 k i j := fun k i j hne => by
    rw [h9]
    repeat rw [sI_ne (by omega)]
  have r9 : v9.2 = v1.2 := by rw [h9]; rfl
  have e2 : v9.1 7 0 2 = 0 := by rw [h9, sI_ne (by omega), sI_ne (by omega), sI_ne (by omega), sI_ne (by omega), sI_ne (by omega), sI_at]
  have e3 : v9.1 7 0 3 = 0 := by rw [h9, sI_ne (by omega), sI_ne (by omega), sI_ne (by omega), sI_ne (by omega), sI_at]
  have e4 : v9.1 7 0 4 = -1 := by rw [h9, sI_ne (by omega), sI_ne (by omega), sI_ne (by omega), sI_at]
  have e11 : v9.1 7 0 11 = nI 0 := by rw [h9, sI_ne (by omega), sI_ne (by omega), sI_at]; rfl
  have e12 : v9.1 7 0 12 = 0 := by rw [h9, sI_ne (by omega), sI_at]
  have e9 : v9.1 7 0 9 = 0 := by rw [h9, sI_at]
  have e22 : v9.2.2 = v.2.2 := by rw [r9]; exact f1.2
  have P9 : kP v9 T n m (Sum.inr (rn isB T n 0)) := by
    obtain ⟨a1, a2, a3, a4, a5, a6⟩ := t1
    refine ⟨⟨a1, a2, a3, a4, by rw [i9 7 0 10 (by omega)]; exact a5, fun q hq => ?_⟩, 0, Nat.zero_le _, e11, e3, e4, rfl⟩
    unfold tok_1
    rw [i9 32 0 q (by omega), i9 33 0 q (by omega), i9 34 0 q (by omega)]
    exact a6 q hq
  refine k_empty (h := 0) (by rw [e22]; exact hnc) (by rw [e22]; exact hl0) (fun v10 f10 R10 => ?_)
  rw [gd_rV_at]
  have fhk := fh_k (h := 0)
  have no10 : ∀ k i, ¬ k = 0 → ¬ k = 2 → ¬ k = 9 → v10.1 k i = v9.1 k i := fun k i h0 h2 h9 => f10.I (fun j q => by rcases fhk k i j q with q | q | q <;> omega)
  have U10 : kU v10 T n m (Sum.inr (rn isB T n 0, (h_0, fun _ => false))) := by
    refine ⟨P9.e (fun j _ => by rw [no10 7 0 (by decide) (by decide) (by decide)]) (no10 32 0 (by decide) (by decide) (by decide)) (no10 33 0 (by decide) (by decide) (by decide)) (no10 34 0 (by decide) (by decide) (by decide)), R10, fun j _ _ => ?_, fun _ => by rw [no10 7 0 (by decide) (by decide) (by decide)]; exact e9⟩
    rw [no10 7 0 (by decide) (by decide) (by decide), e12, bt_0]
  refine k_tapeLoop hd (by omega) n 0 (rn isB T n 0) 1 500 (h_0, fun _ => false) v10 (by omega) (Nat.zero_le _) (stt_rn (Nat.zero_le _)) U10 u_0_ok (fun _ => ⟨Nat.le_refl _, Nat.le_refl _⟩) (fun v' x ex fv Uv => ?_)
  have e10 : v10.2.2.2 = v.2.2.2 := f10.2.1.trans (by rw [e22])
  subst ex
  refine hQ v' m (fun k i j hne => ?_) (fun x hx => ?_) ?_ (fun i hi => ?_) ?_ ?_ Uv
  · have h1 := fv.1 k i j (fun q => hne (Or.inr (Or.inr (by rw [e10] at q; exact q))))
    have h2 := f10.1 k i j (fun q => hne (Or.inr (Or.inr (Or.inr (Or.inr (Or.inl q))))))
    have h4 := f1.1 k i j (fun q => hne (Or.inl q))
    refine ⟨h1.1.trans (h2.1.trans ((i9 k i j (fun q => hne ?_)).trans h4.1)), h1.2.trans (h2.2.trans (by rw [r9]; exact h4.2))⟩
    rcases q.2.2 with z | z | z | z | z | z
    · exact Or.inr (Or.inl ⟨q.1, q.2.1, z⟩)
    · exact Or.inr (Or.inr (Or.inl (Or.inl ⟨q.1, q.2.1, Or.inl z⟩)))
    · exact Or.inr (Or.inr (Or.inl (Or.inl ⟨q.1, q.2.1, Or.inr (Or.inl z)⟩)))
    · exact Or.inr (Or.inr (Or.inl (Or.inl ⟨q.1, q.2.1, Or.inr (Or.inr z)⟩)))
    · exact Or.inr (Or.inr (Or.inr (Or.inl ⟨q.1, q.2.1, z⟩)))
    · exact Or.inr (Or.inr (Or.inl (Or.inr (Or.inl ⟨q.1, q.2.1, z⟩))))
  · rw [fv.2.1 x hx, f10.2.2 x hx, e22]
  · have := fv.2.2.1; rw [e10] at this; exact this
  · rw [fv.2.2.2.1 i (by rw [e10]; exact hi), e10]
  · rw [fv.2.2.2.2, e10]
  · rw [(fv.1 7 0 2 (fun q => by
      rcases q with q | q | q | q
      · rcases q with q | q | q
        · have := q.2.2; omega
        · exact absurd q.2.2 (by decide)
        · exact absurd q.1 (by decide)
      · exact absurd q.2.2 (by decide)
      · rcases fhk _ _ _ q with q | q | q <;> omega
      · exact absurd q.1 (by decide))).1, no10 7 0 (by decide) (by decide) (by decide)]; exact e2
end KTP
