/-! Arrays.copyOf, as a call -/
def gd_cp (v : gd_D) (N : Nat) : gd_D := (fun a b c => if a = 15 ∧ b = v.2.2.2.1 then (if c < N then v.1 35 0 c else 0) else v.1 a b c, v.2.1, v.2.2.1, v.2.2.2.1 + 1, fun b => if b = v.2.2.2.1 then N else v.2.2.2.2.1 b, v.2.2.2.2.2)
theorem gd_cnt_ne {a n n' : Nat} (h : ¬ a = 15) : gd_cnt n a = gd_cnt n' a := by
  unfold gd_cnt
  split <;> first | rfl | exact absurd rfl h
theorem gd_len_ne {a b s : Nat} {f f' : Nat → Nat} (h : ¬ a = 15) : gd_len f s a b = gd_len f' s a b := by
  unfold gd_len
  split <;> first | rfl | exact absurd rfl h
theorem ab_rt35 {a j : Nat} (h : ab_rt a j = 35) : a = 7 ∧ j = 8 := by
  have key : ∀ a, a < 12 → ∀ j, j < 40 → (ab_rtL.getD a []).getD j 0 = 35 → a = 7 ∧ j = 8 := by decide +kernel
  have long : ∀ a, a < 12 → (ab_rtL.getD a []).length ≤ 40 := by decide +kernel
  unfold ab_rt at h
  by_cases h1 : a < 12
  · rw [if_pos h1] at h
    by_cases h2 : j < 40
    · exact key a h1 j h2 h
    · have := long a h1
      rw [List.getD_eq_getElem?_getD, List.getElem?_eq_none (by omega)] at h
      cases h
  · rw [if_neg h1] at h
    split at h
    · cases h
    · split at h
      · cases h
      · split at h <;> cases h
section CY
variable {g : ab_E} {d : Nat} {v : gd_D} {Q : ab_O → gd_D → Prop}
/-- the fresh array is told as one of kind 15 -/
theorem gd_ren {φ0 φ : Nat → Nat → Nat} {H : Heap} {N : Nat} (Z : ab_Z g) (hnc : 0 < v.2.2.2.1) (h : ab_HR g φ (ab_cp (ab_na (gd_e v) 35 N) 35 0 1 N) H) (hx : ab_ext (gd_e v) φ0 (ab_cp (ab_na (gd_e v) 35 N) 35 0 1 N) φ) : ab_HR g (ab_nf φ 15 v.2.2.2.1 (φ 35 1)) (gd_e (gd_cp v N)) H ∧ ab_ext (gd_e v) φ0 (gd_e (gd_cp v N)) (ab_nf φ 15 v.2.2.2.1 (φ 35 1)) := by
  obtain ⟨a1, a2, a3, a4, a5, a6, a7, a8⟩ := h
  have c2 : ∀ a, (ab_cp (ab_na (gd_e v) 35 N) 35 0 1 N).2.2.2.1 a = if a = 35 then 2 else gd_cnt v.2.2.2.1 a := fun a => rfl
  have c3 : ∀ a, (gd_e (gd_cp v N)).2.2.2.1 a = gd_cnt (v.2.2.2.1 + 1) a := fun a => rfl
  have low : ∀ a b, b < (gd_e (gd_cp v N)).2.2.2.1 a → ¬ (a = 15 ∧ b = v.2.2.2.1) → b < (ab_cp (ab_na (gd_e v) 35 N) 35 0 1 N).2.2.2.1 a ∧ ¬ (a = 35 ∧ b = 1) := by
    intro a b hb hne
    rw [c3] at hb
    rw [c2]
    by_cases e15 : a = 15
    · subst e15
      have hb : b < v.2.2.2.1 + 1 := hb
      rw [if_neg (by decide)]
      exact ⟨by show b < v.2.2.2.1; omega, fun q => by omega⟩
    · by_cases e35 : a = 35
      · subst e35
        have hb : b < 1 := hb
        exact ⟨by rw [if_pos rfl]; omega, fun q => by omega⟩
      · rw [if_neg e35, gd_cnt_ne (n' := v.2.2.2.1 + 1) e15]
        exact ⟨hb, fun q => e35 q.1⟩
  have same : ∀ a b, ¬ (a = 15 ∧ b = v.2.2.2.1) → ¬ (a = 35 ∧ b = 1) → (gd_e (gd_cp v N)).1 a b = (ab_cp (ab_na (gd_e v) 35 N) 35 0 1 N).1 a b ∧ (gd_e (gd_cp v N)).2.1 a b = (ab_cp (ab_na (gd_e v) 35 N) 35 0 1 N).2.1 a b ∧ (gd_e (gd_cp v N)).2.2.1 a b = (ab_cp (ab_na (gd_e v) 35 N) 35 0 1 N).2.2.1 a b ∧ (gd_e (gd_cp v N)).2.2.2.2 a b = (ab_cp (ab_na (gd_e v) 35 N) 35 0 1 N).2.2.2.2 a b := by
    intro a b h1 h2
    refine ⟨?_, ?_, ?_, ?_⟩
    · funext c
      show (if a = 15 ∧ b = v.2.2.2.1 then _ else v.1 a b c) = if a = 35 ∧ b = 1 ∧ c < N then _ else (if a = 35 ∧ b = 1 then 0 else v.1 a b c)
      rw [if_neg h1, if_neg (fun q => h2 ⟨q.1, q.2.1⟩), if_neg h2]
    · funext c
      show v.2.1 a b c = if a = 35 ∧ b = 1 then 0 else v.2.1 a b c
      rw [if_neg h2]
    · funext c
      show gd_R0 v.2.2.1 a b c = if a = 35 ∧ b = 1 then none else gd_R0 v.2.2.1 a b c
      rw [if_neg h2]
    · show gd_len (gd_cp v N).2.2.2.2.1 v.2.2.2.2.2 a b = if a = 35 ∧ b = 1 then N else gd_len v.2.2.2.2.1 v.2.2.2.2.2 a b
      rw [if_neg h2]
      by_cases e15 : a = 15
      · subst e15
        show (if b = v.2.2.2.1 then N else v.2.2.2.2.1 b) = v.2.2.2.2.1 b
        rw [if_neg (fun q => h1 ⟨rfl, q⟩)]
      · exact gd_len_ne e15
  have h351 : 1 < (ab_cp (ab_na (gd_e v) 35 N) 35 0 1 N).2.2.2.1 35 := by rw [c2, if_pos rfl]; omega
  have nfn : ∀ a b, ¬ (a = 15 ∧ b = v.2.2.2.1) → ab_nf φ 15 v.2.2.2.1 (φ 35 1) a b = φ a b := fun a b e => if_neg e
  have nfa : ab_nf φ 15 v.2.2.2.1 (φ 35 1) 15 v.2.2.2.1 = φ 35 1 := if_pos ⟨rfl, rfl⟩
  refine ⟨⟨a1, a2, fun a b hb => ?_, fun a b a' b' h1 h2 hb hb' hr e => ?_, fun a b hb hro => ?_, fun a b j x hb hxx => ?_, fun a ha => ?_, ?_⟩, fun a b hb => ?_⟩
  · by_cases e : a = 15 ∧ b = v.2.2.2.1
    · obtain ⟨rfl, rfl⟩ := e
      refine ⟨fun q hq => absurd (ab_cls 15 q hq).1 (by omega), fun _ => ab_ar.of ?_⟩
      have hc := ((a3 35 1 h351).2 (by omega)).eq rfl
      have r15 := (Z.2.2.1.2 15 (by omega) (by omega)).2 (by decide)
      have r35 := (Z.2.2.1.2 35 (by omega) (by omega)).2 (by decide)
      have e15 : ab_et 15 = .int := rfl
      have e35 : ab_et 35 = .int := rfl
      rw [e15] at r15
      rw [e35] at r35
      have r15 : g.2.1.vm.findClass ("[" ++ (FieldType.int).toString) = some (g.2.2.2.2.1 15) := r15
      have r35 : g.2.1.vm.findClass ("[" ++ (FieldType.int).toString) = some (g.2.2.2.2.1 35) := r35
      have ea : g.2.2.2.2.1 15 = g.2.2.2.2.1 35 := Option.some.inj (r15.symm.trans r35)
      rw [nfa, hc, ea, ab_ev_int (Or.inl e35), ab_ev_int (Or.inl e15)]
      have l1 : (ab_cp (ab_na (gd_e v) 35 N) 35 0 1 N).2.2.2.2 35 1 = N := rfl
      have l2 : (gd_e (gd_cp v N)).2.2.2.2 15 v.2.2.2.1 = N := if_pos rfl
      rw [l1, l2]
      congr 2
      funext c
      show Value.int (if 35 = 35 ∧ 1 = 1 ∧ c < N then (if 35 = 35 ∧ 0 = 1 then 0 else v.1 35 0 c) else (if 35 = 35 ∧ 1 = 1 then 0 else v.1 35 1 c)) = Value.int (if 15 = 15 ∧ v.2.2.2.1 = v.2.2.2.1 then (if c < N then v.1 35 0 c else 0) else v.1 15 v.2.2.2.1 c)
      rw [if_pos (c := 15 = 15 ∧ v.2.2.2.1 = v.2.2.2.1) ⟨rfl, rfl⟩]
      by_cases hc2 : c < N
      · rw [if_pos ⟨rfl, rfl, hc2⟩, if_neg (by omega), if_pos hc2]
      · rw [if_neg (fun q => hc2 q.2.2), if_pos ⟨rfl, rfl⟩, if_neg hc2]
    · obtain ⟨l1, l2⟩ := low a b hb e
      obtain ⟨s1, s2, s3, s4⟩ := same a b e l2
      exact (a3 a b l1).far e s1 s2 s3 s4 (fun j x hxx q => by
        have := a6 a b j x l1 hxx
        rw [q.1, c2, if_neg (by decide), q.2] at this
        have this : v.2.2.2.1 < v.2.2.2.1 := this
        omega) rfl
  · by_cases e1 : a = 15 ∧ b = v.2.2.2.1
    · by_cases e2 : a' = 15 ∧ b' = v.2.2.2.1
      · exact ⟨e1.1.trans e2.1.symm, e1.2.trans e2.2.symm⟩
      · obtain ⟨l1, l2⟩ := low a' b' hb' e2
        rw [e1.1, e1.2, nfa, nfn a' b' e2] at e
        have := a4 35 1 a' b' (by omega) h2 h351 l1 hr e
        exact absurd ⟨this.1.symm, this.2.symm⟩ l2
    · obtain ⟨l1, l2⟩ := low a b hb e1
      by_cases e2 : a' = 15 ∧ b' = v.2.2.2.1
      · rw [e2.1, e2.2, nfa, nfn a b e1] at e
        have := a4 a b 35 1 h1 (by omega) l1 h351 rfl e
        exact absurd this l2
      · obtain ⟨l3, l4⟩ := low a' b' hb' e2
        rw [nfn a b e1, nfn a' b' e2] at e
        exact a4 a b a' b' h1 h2 l1 l3 hr e
  · by_cases e : a = 15 ∧ b = v.2.2.2.1
    · rw [e.1] at hro; cases hro
    · rw [nfn a b e]; exact a5 a b (low a b hb e).1 hro
  · by_cases e : a = 15 ∧ b = v.2.2.2.1
    · rw [e.1] at hxx; cases hxx
    · obtain ⟨l1, l2⟩ := low a b hb e
      have hxx2 := hxx
      rw [(same a b e l2).2.2.1] at hxx2
      have hlt := a6 a b j x l1 hxx2
      rw [c2] at hlt
      rw [c3]
      by_cases e35 : ab_rt a j = 35
      · obtain ⟨rfl, rfl⟩ := ab_rt35 e35
        have hxx : some b = some x := hxx
        have hb : b < 1 := hb
        rw [e35]
        show x < 1
        cases hxx; exact hb
      · rw [if_neg e35] at hlt
        by_cases e15 : ab_rt a j = 15
        · rw [e15] at hlt ⊢
          have hlt : x < v.2.2.2.1 := hlt
          show x < v.2.2.2.1 + 1
          omega
        · rw [gd_cnt_ne (n' := v.2.2.2.1) e15]; exact hlt
  · rw [← a7 a ha]
    funext b
    exact nfn a b (fun q => by omega)
  · rw [← a8]; exact nfn 15 0 (fun q => by omega)
  · have h1 := hx a b hb
    have hb' : b < gd_cnt v.2.2.2.1 a := hb
    have hne : ¬ (a = 15 ∧ b = v.2.2.2.1) := fun q => by
      rw [q.1, q.2] at hb'
      have hb' : v.2.2.2.1 < v.2.2.2.1 := hb'
      omega
    refine ⟨?_, (nfn a b hne).trans h1.2⟩
    rw [c3]
    by_cases e15 : a = 15
    · subst e15
      have hb' : b < v.2.2.2.1 := hb'
      show b < v.2.2.2.1 + 1
      omega
    · rw [gd_cnt_ne (n' := v.2.2.2.1) e15]; exact hb'
theorem arr_int : Cond.arrayClass FieldType.int ∈ lw_tbl := List.mem_of_getElem? (i := 392) (by decide +kernel)
theorem c_copyOf {N : Nat} (hd : 3 ≤ d) (hN : N < 500) (hnc : 0 < v.2.2.2.1) (h : Q (Sum.inl (some (zR 15 v.2.2.2.1))) (gd_cp v N)) : gd_C g mJ7_copyOf_59c91 d 1 500 [zR 35 0, zI (nI N)] v Q := by
  refine ab_enterR (L0 := [(0, zR 35 0), (1, zI (nI N))]) (Q2 := fun o w => o = Sum.inl (some (zR 35 1)) ∧ w = ab_cp (ab_na (gd_e v) 35 N) 35 0 1 N) (by decide +kernel) (Nat.le_of_ble_eq_true rfl) rfl ?_ (fun Z φ0 x φ w2 H q hR hX hok => ?_) (fun E w2 q => by cases q.1)
  · refine ab_iload_n 1 dJ7_copyOf_59c91_0 rfl rfl ?_
    refine ab_aload_n 0 dJ7_copyOf_59c91_1 rfl rfl ?_
    refine ab_alen (n := 500) (v := 500) (by decide) dJ7_copyOf_59c91_2 rfl rfl ?_
    refine ab_icmp_ne (tgt := 14) dJ7_copyOf_59c91_3 (by decide) (fun _ => ?_) (fun q => absurd (nu_eq (k := 500) (by omega) (by omega) q) (by omega))
    refine ab_iload_n 1 dJ7_copyOf_59c91_14 rfl rfl ?_
    refine ab_newa (k := 35) (N := N) (ty := .int) (by decide) rfl rfl (Or.inl rfl) arr_int (fun q => absurd q.1 (by decide)) dJ7_copyOf_59c91_15 (nI_pos (by omega)) (nI_clamp (by omega)) (by omega) ⟨Nat.le_refl 1, by omega⟩ ?_
    refine ab_astore_n (L' := [(2, zR 35 1), (0, zR 35 0), (1, zI (nI N))]) dJ7_copyOf_59c91_17 rfl (by decide) rfl ?_
    refine ab_aload_n 1 dJ7_copyOf_59c91_18 rfl rfl ?_
    refine ab_iconst (v := 0) dJ7_copyOf_59c91_19 (by decide) ?_
    refine ab_aload_n 0 dJ7_copyOf_59c91_20 rfl rfl ?_
    refine ab_iconst (v := 0) dJ7_copyOf_59c91_21 (by decide) ?_
    refine ab_aload_n 1 dJ7_copyOf_59c91_22 rfl rfl ?_
    refine ab_alen (n := 500) (v := nI 500) (by decide) dJ7_copyOf_59c91_23 rfl rfl ?_
    refine ab_iload_n 2 dJ7_copyOf_59c91_24 rfl rfl ?_
    refine ab_callS (As := [zI (nI 500), zI (nI N)]) (rest := [zI 0, zR 35 1, zI 0, zR 35 0]) (dy := 2) (my := 0) (sy := 0) (Qy := fun o w => o = Sum.inl (some (zI (nI N))) ∧ w = ab_na (gd_e v) 35 N) lJ7_304 tJ9_min_7cf53 dJ7_copyOf_59c91_25 rfl rfl (gd_room (by omega) (by decide)) ⟨Nat.zero_le _, Nat.zero_le _⟩ (Nat.le_of_ble_eq_true rfl) (ab_min ⟨by rw [if_pos (nI_lt (by omega) (by omega))], rfl⟩) (fun x w' q => ?_) (fun E w' q => by cases q.1)
    obtain ⟨q1, q2⟩ := q
    cases q1
    subst q2
    refine ab_copy (n0 := 500) (n1 := N) (by decide) rfl rfl acp_l rfl rfl (by omega) (Nat.le_refl _) (by omega) dJ7_copyOf_59c91_28 (by omega) ?_
    refine ab_aload_n 0 dJ7_copyOf_59c91_31 rfl rfl ?_
    exact ab_aret dJ7_copyOf_59c91_32 rfl (Or.inr ⟨_, rfl⟩) ⟨rfl, rfl⟩
  · obtain ⟨q1, q2⟩ := q
    cases q1
    subst q2
    obtain ⟨r1, r2⟩ := gd_ren Z hnc hR hX
    refine ⟨some (zR 15 v.2.2.2.1), _, _, ?_, ⟨gd_cp v N, rfl, h⟩, r1, r2, fun x hx => ?_⟩
    · show some (Value.ref _) = some (Value.ref _)
      rw [show ab_nf φ 15 v.2.2.2.1 (φ 35 1) 15 v.2.2.2.1 = φ 35 1 from if_pos ⟨rfl, rfl⟩]
    · cases hx
      exact ab_okR (show v.2.2.2.1 < v.2.2.2.1 + 1 by omega)
end CY
