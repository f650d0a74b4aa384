/-! PLACES, LINKS, FAULTS -/
def op (s : Nat) : List Nat → Nat
  | [] => 0
  | x :: l => if x = s then 0 else op s l + 1
/-- the n-th link of a chain from a, past who is in S -/
def lk (P : Nat → List Nat) : Nat → (Nat → Bool) → Nat → Option Nat
  | 0, _, a => some a
  | n + 1, S, a => match (P a).head? with
    | none => none
    | some b => if cl_up S a b then none else lk P n (cl_up S a) b
theorem lk_c {P : Nat → List Nat} {n a : Nat} {S : Nat → Bool} : lk P (n + 1) S a = match (P a).head? with
    | none => none
    | some b => if cl_up S a b then none else lk P n (cl_up S a) b := rfl
/-- how many are not in S -/
def lk_n (S : Nat → Bool) (N : Nat) : Nat := pt_c (fun x => if S x then 0 else 1) N
theorem lk_n_up {S : Nat → Bool} {N a : Nat} (ha : a < N) (hS : S a = false) : lk_n (cl_up S a) N + 1 = lk_n S N := by
  have h1 := pt_c_0 (f := fun x => if S x then 0 else 1) (f' := fun x => if cl_up S a x then 0 else 1) (b := a) (fun z hz => by unfold cl_up; rw [decide_eq_false hz, Bool.or_false]) (by rw [hS]; decide) ha
  rw [if_neg (by rw [cl_up_at]; decide)] at h1
  exact h1
section AC
variable {g : ab_E} {d : Nat} {v : gd_D} {Q : ab_O → gd_D → Prop} {H : hs_T} {h : Nat}
theorem k_placeOf {o s : Nat} {O : List Nat} (hO : cr_O v o O) (hl : O.length ≤ 24) (hs24 : s < 24) (hm : s ∈ O) (hOm : ∀ x ∈ O, x < 24) (hQ : Q (Sum.inl (some (zI (nI (op s O))))) v) : gd_C g mX5_placeOf d 0 0 [zR 5 o, zI (nI s)] v Q := by
  refine c_X5_placeOf (Nat.zero_le _) ?_
  have key : ∀ (l : List Nat) (i : Nat), O.drop i = l → i ≤ O.length → s ∈ l → i + op s l = op s O → gd_G g mX5_placeOf d 0 0 2 [(0, zR 5 o), (1, zI (nI s)), (2, zI (nI i))] [] v Q := by
    intro l
    induction l with
    | nil => intro i hl hi hms; cases hms
    | cons x l ih =>
      intro i hl2 hi hms he
      obtain ⟨hi2, e0, hl3, hmem⟩ := drop_at hl2
      have hx := hOm x hmem
      refine w_X5_placeOf_2 (Nat.zero_le _) (pk_le O.length i (fun q => absurd q (by omega)) (fun _ => ⟨nu_in (by omega) (by omega), ?_⟩) hO.1 rfl (by omega) (by omega))
      rw [nI_clamp (by omega), hO.2 i hi2, e0, nI_eq (by omega) (by omega)]
      have he' : i + (if x = s then 0 else op s l + 1) = op s O := he
      refine ⟨fun q => ?_, fun q => ?_⟩
      · rw [if_neg q] at he'
        rw [nu_1]
        refine ih (i + 1) hl3 (by omega) ?_ (by omega)
        rcases List.mem_cons.mp hms with e | e
        · exact absurd e.symm q
        · exact e
      · rw [if_pos q] at he'
        rw [show i = op s O from by omega]; exact hQ
  exact key O 0 rfl (Nat.zero_le _) hm (by omega)
theorem k_linkOf {p N s i : Nat} {P : Nat → List (Nat × Nat)} {st : Nat → Nat} (hN : N ≤ 24) (hi : i < 2 ^ 31) (hS : cp_S v p P N st 48) (hPm : ∀ a, a < N → ∀ q ∈ P a, q.1 < N) (hs : s < N) (hQ : Q (Sum.inl (some (zI (oi (lk (fun a => (P a).map Prod.fst) i (fun _ => false) s))))) v) : gd_C g mX6_linkOf d 0 0 [zR 6 p, zI (nI s), zI (nI i)] v Q := by
  refine c_X6_linkOf (Nat.zero_le _) ?_
  have key : ∀ (m k a : Nat) (S : Nat → Bool) (w : Int32), k + m = i → a < N → S a = false → k + lk_n S N ≤ N → (∀ z, z < 24 → bt w z = cl_up S a z) → lk (fun a => (P a).map Prod.fst) m S a = lk (fun a => (P a).map Prod.fst) i (fun _ => false) s → gd_G g mX6_linkOf d 0 0 10 [(0, zR 6 p), (2, zI (nI i)), (3, zI (nI a)), (4, zI w), (5, zI (nI k))] [] v Q := by
    intro m
    induction m with
    | zero =>
      intro k a S w hk ha hSa hc hw he
      have e : k = i := by omega
      subst e
      refine w_X6_linkOf_10 (Nat.zero_le _) (pk_le k k (fun _ => ?_) (fun q => absurd q (Nat.lt_irrefl _)) rfl rfl (by omega) (by omega))
      rw [← he] at hQ
      exact hQ
    | succ m ih =>
      intro k a S w hk ha hSa hc hw he
      have up := lk_n_up ha hSa
      obtain ⟨a1, a2, a3, a4⟩ := hS.1 a ha
      rw [lk_c] at he
      refine w_X6_linkOf_10 (Nat.zero_le _) (pk_le i k (fun q => absurd q (by omega)) (fun _ => pk_le 24 k (fun q => absurd q (by omega)) (fun _ => ⟨nu_in (by omega) (by omega), ?_⟩) rfl rfl (by omega) (by omega)) rfl rfl (by omega) (by omega))
      rw [nI_clamp (by omega), a2]
      cases hPa : P a with
      | nil =>
        refine ⟨fun q => absurd (by rw [List.length_nil]; rfl) q, fun _ => ?_⟩
        rw [hPa] at he
        rw [← he] at hQ
        exact hQ
      | cons b l =>
        rw [hPa] at a3 a4 he
        rw [List.length_cons] at a3
        have hb : b.1 < N := hPm a ha b (by rw [hPa]; exact List.mem_cons_self)
        have e26 : v.1 26 p (st a) = nI b.1 := (a4 0 (Nat.succ_pos _)).1
        have he' : (if cl_up S a b.1 then none else lk (fun a => (P a).map Prod.fst) m (cl_up S a) b.1) = lk (fun a => (P a).map Prod.fst) i (fun _ => false) s := he
        refine ⟨fun _ => ⟨nu_in (by omega) (by omega), ?_⟩, fun q => absurd q (nI_ne0 (by rw [List.length_cons]; omega) (by rw [List.length_cons]; omega))⟩
        rw [a1, nI_clamp (by omega), e26]
        refine ⟨nu_in (by omega) (by omega), ?_⟩
        rintro _ rfl
        have tst := bt_test (w := w) (z := b.1) (by omega)
        rw [hw b.1 (by omega)] at tst
        refine ⟨fun q => ?_, fun q => ?_⟩
        · have hf := tst.mp q
          rw [hf, if_neg Bool.false_ne_true] at he'
          rw [nu_1]
          refine ih (k + 1) b.1 (cl_up S a) (w ||| (1 <<< (nI b.1 &&& 31))) (by omega) hb hf (by omega) (fun z hz => ?_) he'
          rw [bt_or, hw z hz, bt_one b.1 (by omega) z (by omega)]; rfl
        · have ht : cl_up S a b.1 = true := by
            cases e : cl_up S a b.1 with
            | true => rfl
            | false => exact absurd (tst.mpr e) q
          rw [ht, if_pos rfl] at he'
          rw [← he'] at hQ
          exact hQ
  refine key i 0 s (fun _ => false) (1 <<< (nI s &&& 31)) (by omega) hs rfl ?_ (fun z hz => ?_) rfl
  · have := pt_c_le (fun x => if (fun _ => false) x then 0 else 1) N
    show 0 + pt_c _ N ≤ N
    omega
  · rw [bt_one s (by omega) z (by omega)]; rfl
end AC
section AR
variable {g : ab_E} {d : Nat} {v : gd_D} {Q : ab_O → gd_D → Prop} {H : hs_T}
theorem r_parts {T : List Nat} {s : Nat} (hd : 4 ≤ d) (hT : T.length ≤ 24) (hpa : ∀ (i : Nat) (Q : ab_O → gd_D → Prop), i < 2 ^ 31 → Q (Sum.inl (some (zI (oi (T[i]?))))) v → gd_C g mX11_partAt 3 0 0 [zR 11 0, zI (nI s), zI (nI i)] v Q) (hTm : ∀ x ∈ T, x < 24) (h : Q (Sum.inl (some (zI (nI T.length)))) v) : gd_G g mX11_partMany d 0 0 10 [(0, zR 11 0), (1, zI (nI s)), (2, zI (nI 0))] [] v Q := by
  have key : ∀ (l : List Nat) (i : Nat), T.drop i = l → i ≤ T.length → gd_G g mX11_partMany d 0 0 10 [(0, zR 11 0), (1, zI (nI s)), (2, zI (nI i))] [] v Q := by
    intro l
    induction l with
    | nil =>
      intro i hl hi
      have ei := drop_end hl hi
      refine w_X11_partMany_10 hd (hpa i _ (by omega) ?_)
      rw [drop_no hl]
      exact ⟨fun _ => by rw [ei]; exact h, fun q => absurd rfl q⟩
    | cons b l ih =>
      intro i hl hi
      obtain ⟨hi2, -, hl2, hmem⟩ := drop_at hl
      have hb := hTm b hmem
      refine w_X11_partMany_10 hd (hpa i _ (by omega) ?_)
      rw [drop_hd hl]
      refine ⟨fun q => absurd q (nu_m1 (by omega)), fun _ => ?_⟩
      rw [nu_1]
      exact ih (i + 1) hl2 (by omega)
  exact key T 0 rfl (Nat.zero_le _)
end AR
