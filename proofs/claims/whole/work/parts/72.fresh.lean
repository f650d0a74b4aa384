/-! FRESH CELLS over abstract worlds -/
/-- addresses with one more -/
def ab_nf (φ : Nat → Nat → Nat) (k i h : Nat) : Nat → Nat → Nat := fun a b => if a = k ∧ b = i then h else φ a b
/-- a fresh array: all 0 -/
def ab_na (w : ab_W) (k N : Nat) : ab_W := (fun a b c => if a = k ∧ b = w.2.2.2.1 k then 0 else w.1 a b c, fun a b c => if a = k ∧ b = w.2.2.2.1 k then 0 else w.2.1 a b c, fun a b c => if a = k ∧ b = w.2.2.2.1 k then none else w.2.2.1 a b c, fun a => if a = k then w.2.2.2.1 k + 1 else w.2.2.2.1 a, fun a b => if a = k ∧ b = w.2.2.2.1 k then N else w.2.2.2.2 a b)
theorem ab_cell.at {g : ab_E} {φ : Nat → Nat → Nat} {w : ab_W} {H : Heap} {k i : Nat} (h : ab_cell g φ w H k i) (hk : k < 65) : φ k i < H.size := by
  by_cases h12 : k < 12
  · have : ∃ q, ab_cl[k]? = some q := by
      have hl : k < ab_cl.length := h12
      exact ⟨_, List.getElem?_eq_getElem hl⟩
    obtain ⟨q, hq⟩ := this
    obtain ⟨cell, c1, -⟩ := h.1 q hq
    exact (Array.getElem?_eq_some_iff.mp c1).1
  · exact (h.2 ⟨by omega, hk⟩).lt
theorem ab_cell.far {g : ab_E} {φ : Nat → Nat → Nat} {w w' : ab_W} {H H' : Heap} {k i a b h : Nat} (hc : ab_cell g φ w H a b) (hne : ¬ (a = k ∧ b = i)) (h1 : w'.1 a b = w.1 a b) (h2 : w'.2.1 a b = w.2.1 a b) (h3 : w'.2.2.1 a b = w.2.2.1 a b) (h4 : w'.2.2.2.2 a b = w.2.2.2.2 a b) (hr : ∀ j x, w.2.2.1 a b j = some x → ¬ (ab_rt a j = k ∧ x = i)) (hq : H'[φ a b]? = H[φ a b]?) : ab_cell g (ab_nf φ k i h) w' H' a b := by
  have eφ : ab_nf φ k i h a b = φ a b := if_neg hne
  have em : ∀ j, (w'.2.2.1 a b j).map (ab_nf φ k i h (ab_rt a j)) = (w.2.2.1 a b j).map (φ (ab_rt a j)) := fun j => by
    rw [h3]
    cases e : w.2.2.1 a b j with
    | none => rfl
    | some x => show some _ = some _; rw [show ab_nf φ k i h (ab_rt a j) x = φ (ab_rt a j) x from if_neg (hr j x e)]
  have e1 : ab_sv (ab_nf φ k i h) w' a b = ab_sv φ w a b := by
    funext j
    unfold ab_sv
    rw [h1, h2, em j]
  have e2 : ab_ev (ab_nf φ k i h) w' a b = ab_ev φ w a b := by
    unfold ab_ev
    rw [h1, h2]
    split
    · rfl
    · funext j; rw [em j]
    · rfl
  refine ⟨fun q hcq => ?_, fun hk => ?_⟩
  · rw [e1, eφ]; exact (hc.1 q hcq).kept hq
  · rw [e2, h4, eφ]; exact (hc.2 hk).kept hq
theorem ab_HR.new {g : ab_E} {φ : Nat → Nat → Nat} {w w' : ab_W} {H H' : Heap} {k : Nat} (h : ab_HR g φ w H) (hk : k < 65) (h15 : ¬ (k = 15 ∧ w.2.2.2.1 k = 0)) (hc : w'.2.2.2.1 = fun a => if a = k then w.2.2.2.1 k + 1 else w.2.2.2.1 a)
    (hw : ∀ a b, ¬ (a = k ∧ b = w.2.2.2.1 k) → w'.1 a b = w.1 a b ∧ w'.2.1 a b = w.2.1 a b ∧ w'.2.2.1 a b = w.2.2.1 a b ∧ w'.2.2.2.2 a b = w.2.2.2.2 a b) (hR : ∀ j x, w'.2.2.1 k (w.2.2.2.1 k) j = some x → x < w.2.2.2.1 (ab_rt k j))
    (hcell : ab_cell g (ab_nf φ k (w.2.2.2.1 k) H.size) w' H' k (w.2.2.2.1 k)) (hz : H'.size = H.size + 1) (oq : ∀ q : Nat, q < H.size → H'[q]? = H[q]?) : ab_HR g (ab_nf φ k (w.2.2.2.1 k) H.size) w' H' ∧ ab_ext w φ w' (ab_nf φ k (w.2.2.2.1 k) H.size) := by
  obtain ⟨a1, a2, a3, a4, a5, a6, a7, a8⟩ := h
  have cl : ∀ a b, b < w'.2.2.2.1 a → ¬ (a = k ∧ b = w.2.2.2.1 k) → b < w.2.2.2.1 a := fun a b hb hne => by
    rw [hc] at hb
    have hb : b < if a = k then w.2.2.2.1 k + 1 else w.2.2.2.1 a := hb
    by_cases e : a = k
    · subst e; rw [if_pos rfl] at hb; omega
    · rw [if_neg e] at hb; exact hb
  have cge : ∀ a, w.2.2.2.1 a ≤ w'.2.2.2.1 a := fun a => by
    rw [hc]
    show w.2.2.2.1 a ≤ if a = k then w.2.2.2.1 k + 1 else w.2.2.2.1 a
    by_cases e : a = k
    · subst e; rw [if_pos rfl]; omega
    · rw [if_neg e]; exact Nat.le_refl _
  have nfn : ∀ a b, ¬ (a = k ∧ b = w.2.2.2.1 k) → ab_nf φ k (w.2.2.2.1 k) H.size a b = φ a b := fun a b e => if_neg e
  have nfa : ab_nf φ k (w.2.2.2.1 k) H.size k (w.2.2.2.1 k) = H.size := if_pos ⟨rfl, rfl⟩
  refine ⟨⟨fun q hq => ?_, by omega, fun a b hb => ?_, fun a b a' b' h1 h2 hb hb' hr e => ?_, fun a b hb hro => ?_, fun a b j x hb hx => ?_, fun a ha => ?_, ?_⟩, fun a b hb => ⟨Nat.lt_of_lt_of_le hb (cge a), nfn a b (fun q => by rw [q.1, q.2] at hb; omega)⟩⟩
  · rw [oq q (by omega)]; exact a1 q hq
  · by_cases e : a = k ∧ b = w.2.2.2.1 k
    · rw [e.1, e.2]; exact hcell
    · have hb2 := cl a b hb e
      obtain ⟨w1, w2, w3, w4⟩ := hw a b e
      by_cases h65 : a < 65
      · exact (a3 a b hb2).far e w1 w2 w3 w4 (fun j x hx q => by
          have := a6 a b j x hb2 hx
          rw [q.1, q.2] at this; omega) (oq _ ((a3 a b hb2).at h65))
      · exact ⟨fun q hq => absurd (ab_cls a q hq).1 (by omega), fun hk => absurd hk.2 h65⟩
  · by_cases e1 : a = k ∧ b = w.2.2.2.1 k
    · by_cases e2 : a' = k ∧ b' = w.2.2.2.1 k
      · exact ⟨e1.1.trans e2.1.symm, e1.2.trans e2.2.symm⟩
      · rw [e1.1, e1.2, nfa, nfn a' b' e2] at e
        have := (a3 a' b' (cl a' b' hb' e2)).at h2
        omega
    · by_cases e2 : a' = k ∧ b' = w.2.2.2.1 k
      · rw [e2.1, e2.2, nfa, nfn a b e1] at e
        have := (a3 a b (cl a b hb e1)).at h1
        omega
      · rw [nfn a b e1, nfn a' b' e2] at e
        exact a4 a b a' b' h1 h2 (cl a b hb e1) (cl a' b' hb' e2) hr e
  · by_cases e : a = k ∧ b = w.2.2.2.1 k
    · rw [e.1, e.2, nfa]; omega
    · rw [nfn a b e]; exact a5 a b (cl a b hb e) hro
  · by_cases e : a = k ∧ b = w.2.2.2.1 k
    · rw [e.1, e.2] at hx
      rw [e.1]
      exact Nat.lt_of_lt_of_le (hR j x hx) (cge _)
    · rw [(hw a b e).2.2.1] at hx
      exact Nat.lt_of_lt_of_le (a6 a b j x (cl a b hb e) hx) (cge _)
  · rw [← a7 a ha]
    funext b
    exact nfn a b (fun q => by omega)
  · rw [← a8]; exact nfn 15 0 (fun q => h15 ⟨q.1.symm, q.2.symm⟩)
/-- the value a fresh cell is at -/
theorem ab_ok_na {w w' : ab_W} {φ φ' : Nat → Nat → Nat} (h : ab_ext w φ w' φ') {v : ab_V} (hv : ab_ok w v) : ab_ok w' v := ab_ok_ext h hv
section AN
variable {g : ab_E} {M : ab_M} {d bc bs pc : Nat} {L : List (Nat × ab_V)} {st : List ab_V} {w : ab_W} {Q : ab_O → ab_W → Prop}
/-- an outcome's posts move on with the world -/
theorem ab_F_new {mc ms N : Nat} {φ0 φ φ' : Nat → Nat → Nat} {w0 w' : ab_W} {H H' : Heap} {locs : List Loc} {cells slots : Nat} {ls : Array Slot} (hb : 1 ≤ bc ∧ N ≤ bs) (F : ab_F g M bc bs mc ms L st w φ0 w0 φ H locs cells slots ls) (hR : ab_HR g φ' w' H') (hx : ab_ext w φ w' φ') {st' : List ab_V} (hs : ∀ v ∈ st', v ∈ st ∨ ab_ok w' v) : ab_F g M (bc - 1) (bs - N) mc ms L st' w' φ0 w0 φ' H' locs (cells + 1) (slots + N) ls := by
  obtain ⟨f1, f2, f3, f4, f5, f6, f7⟩ := F
  refine ⟨by omega, hR, f3.tr hx, f4, ?_, fun q hq => ab_ok_ext hx (f6 q hq), fun v hv => ?_⟩
  · have : L.map (fun q => (q.1, ab_vl φ' q.2)) = L.map (fun q => (q.1, ab_vl φ q.2)) := List.map_congr_left (fun q hq => by rw [ab_vl_ext hx (f6 q hq)])
    rw [this]; exact f5
  · rcases hs v hv with h | h
    · exact ab_ok_ext hx (f7 v h)
    · exact h
theorem ab_st_ext {φ φ' : Nat → Nat → Nat} {w' : ab_W} (hx : ab_ext w φ w' φ') (h : ∀ v ∈ st, ab_ok w v) : st.map (ab_vl φ') = st.map (ab_vl φ) := List.map_congr_left (fun v hv => by rw [ab_vl_ext hx (h v hv)])
theorem ab_newa {k N : Nat} {n : Int32} {atype : ArrayType} {ty : FieldType} (hk : 12 ≤ k ∧ k < 65) (hty : newarray.typeOf atype = ty) (ht : ab_et k = ty) (hp : ty = .int ∨ ty = .long ∨ ty = .byte ∨ ty = .boolean) (harr : Cond.arrayClass ty ∈ lw_tbl) (h15 : ¬ (k = 15 ∧ w.2.2.2.1 k = 0)) (hd : decode M.2.1 pc = .ok (.newarray atype, 2)) (hn : ¬ n < 0) (hN : n.toNatClampNeg = N) (hN2 : N ≤ 10000) (hb : 1 ≤ bc ∧ N ≤ bs) (kk : ab_G g M d (bc - 1) (bs - N) (pc + 2) L (zR k (w.2.2.2.1 k) :: st) (ab_na w k N) Q) (h63 : k ≠ 63 := by decide) : ab_G g M d bc bs pc L (zI n :: st) w Q := by
  intro Z p e R s m args below meth c mc ms X φ0 w0 φ H locs cells slots ls F
  have F' := F
  obtain ⟨f1, f2, f3, f4, f5, f6, f7⟩ := F
  have hW := X.2.2.2.2.2.2.1
  have harr' : (Cond.arrayClass (newarray.typeOf atype)).before args s = true := by rw [hty]; exact ab_word Z hW harr rfl args
  have hcb : componentBytes ty ≤ 8 := by rcases hp with h | h | h | h <;> (rw [h]; decide)
  refine va_newaK X.1 X.2.1 harr' rfl hd rfl hn hN (by rw [hty]; have := Nat.mul_le_mul hN2 hcb; omega) (by have := X.2.2.2.2.2.2.2.2.2.2.2.1; omega) (by have := X.2.2.2.2.2.2.2.2.2.2.2.2.1; omega) rfl fun H1 cA e1 z1 o1 hAr hNm => ?_
  have hRA := ((Z.2.2.1.moved hW.alike).2 k hk.1 hk.2).2 h63
  have hcA : cA = g.2.2.2.2.1 k := by
    rw [hty] at hNm
    rw [ht] at hRA
    have : s.vm.findClass ("[" ++ ty.toString) = some (g.2.2.2.2.1 k) := by
      rcases hp with h | h | h | h <;> (rw [h] at hRA ⊢; exact hRA)
    exact Option.some.inj (hNm.symm.trans this)
  have hcell : ab_cell g (ab_nf φ k (w.2.2.2.1 k) H.size) (ab_na w k N) H1 k (w.2.2.2.1 k) := by
    refine ⟨fun q hq => absurd (ab_cls k q hq).1 (by omega), fun _ => ab_ar.of ?_⟩
    rw [show ab_nf φ k (w.2.2.2.1 k) H.size k (w.2.2.2.1 k) = H.size from if_pos ⟨rfl, rfl⟩, e1, hcA, hty, show (ab_na w k N).2.2.2.2 k (w.2.2.2.1 k) = N from if_pos ⟨rfl, rfl⟩]
    have zi : ∀ j, (ab_na w k N).1 k (w.2.2.2.1 k) j = 0 := fun j => if_pos ⟨rfl, rfl⟩
    have zj : ∀ j, (ab_na w k N).2.1 k (w.2.2.2.1 k) j = 0 := fun j => if_pos ⟨rfl, rfl⟩
    rcases hp with h | h | h | h
    · rw [ab_ev_int (Or.inl (ht.trans h))]; simp only [zi]; rw [h]; rfl
    · rw [ab_ev_long (ht.trans h)]; simp only [zj]; rw [h]; rfl
    · rw [ab_ev_int (Or.inr (Or.inl (ht.trans h)))]; simp only [zi]; rw [h]; rfl
    · rw [ab_ev_int (Or.inr (Or.inr (ht.trans h)))]; simp only [zi]; rw [h]; rfl
  obtain ⟨hR1, hx1⟩ := f2.new hk.2 h15 rfl (w' := ab_na w k N) (fun a b hne => ⟨by funext z; exact if_neg hne, by funext z; exact if_neg hne, by funext z; exact if_neg hne, if_neg hne⟩) (fun j x hx => by
    rw [show (ab_na w k N).2.2.1 k (w.2.2.2.1 k) j = none from if_pos ⟨rfl, rfl⟩] at hx; cases hx) hcell z1 o1
  have hst : ∀ v ∈ st, ab_ok w v := fun v hv => f7 v (List.mem_cons_of_mem _ hv)
  have := kk Z p e R s m args below meth c mc ms X φ0 w0 _ H1 locs (cells + 1) (slots + N) ls (ab_F_new (N := N) hb F' hR1 hx1 (fun v hv => ?_))
  · rw [List.map_cons, ab_st_ext hx1 hst] at this
    have e5 : ab_vl (ab_nf φ k (w.2.2.2.1 k) H.size) (zR k (w.2.2.2.1 k)) = .ref H.size := by show Value.ref _ = _; rw [show ab_nf φ k (w.2.2.2.1 k) H.size k (w.2.2.2.1 k) = H.size from if_pos ⟨rfl, rfl⟩]
    rw [e5] at this
    exact this
  · rcases List.mem_cons.mp hv with h | h
    · refine Or.inr ?_
      rw [h]
      exact ab_okR (by show _ < if k = k then _ else _; rw [if_pos rfl]; omega)
    · exact Or.inl (List.mem_cons_of_mem _ h)
end AN
