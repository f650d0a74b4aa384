/-! Arrays.copyOf of the reader's code: a fresh array of kind 15 -/
section CO
variable {g : ab_E} {M : ab_M} {d bc bs pc : Nat} {L : List (Nat × ab_V)} {st : List ab_V} {w : ab_W} {Q Q2 : ab_O → ab_W → Prop}
/-- entering, with the outcome told anew -/
theorem ab_enterR {args : List ab_V} {mc ms : Nat} {L0 : List (Nat × ab_V)} (hy : plainFor M.1 = true) (hsz : ab_sz args ≤ M.2.2.1) (hL : ab_args 0 args = L0) (k : ab_G g M d mc ms 0 L0 [] w Q2) (hc : ab_Z g → ∀ φ0 v φ w2 H, Q2 (Sum.inl v) w2 → ab_HR g φ w2 H → ab_ext w φ0 w2 φ → (∀ x, v = some x → ab_ok w2 x) → ∃ v' φ' w', v'.map (ab_vl φ') = v.map (ab_vl φ) ∧ Q (Sum.inl v') w' ∧ ab_HR g φ' w' H ∧ ab_ext w φ0 w' φ' ∧ ∀ x, v' = some x → ab_ok w' x) (hx : ∀ E w2, ¬ Q2 (Sum.inr E) w2) : ab_C g M d mc ms args w Q := by
  intro Z hok φ
  refine ab_ofWF (cc := M.2.1) (maxL := M.2.2.1) (ret := M.2.2.2) hy rfl ?_
  intro p e s m a below meth c s₁ B hml ht hv
  obtain ⟨rfl, hW, hHR⟩ := hv
  have hl := lv_entry (args.map (ab_vl φ)) (n := M.2.2.1) (by rw [ab_sl_len]; exact hsz)
  rw [lg_entry_eq]
  generalize (lg_sl (args.map (ab_vl φ)) ++ List.replicate (M.2.2.1 - (lg_sl (args.map (ab_vl φ))).length) Slot.unset).toArray = ls at hl ⊢
  rw [ab_args_map φ args 0, hL] at hl
  have hown : s.vm.findClass M.1.cls = some m.cls := findClass_of_methodNamed B.named
  have kk := k Z p e (ab_rm d mc ms) s m (args.map (ab_vl φ)).toArray below meth c mc ms ⟨B.exec, B.bytes, hml, hown, B.returns, B.notSynchronized, hW, ht, (name_of_methodNamed B.named B.method).1, Nat.le_refl _, Nat.le_refl _, Nat.le_refl _, Nat.le_refl _, hHR.1, hHR.2.1⟩ φ w φ s.heap [] 0 0 ls ⟨⟨by omega, by omega⟩, hHR, ab_ext.rf, (fun q hq => by cases hq), hl, (fun q hq => by rw [← hL] at hq; exact ab_args_ok args 0 hok q hq), (fun v hv => by cases hv)⟩
  intro T hT X
  obtain ⟨t, a1, o, b1, b2, b3⟩ := kk T hT X
  refine ⟨t, a1, o, b1, b2, ?_⟩
  rcases b3 with ⟨⟨v, φ2, w2, e1, e2, e3, e4, e5⟩, r⟩ | ⟨q, eo, E, ce, LL, ⟨φ2, w2, h2, -⟩, -⟩
  · obtain ⟨v', φ', w', c1, c2, c3, c4, c5⟩ := hc Z φ v φ2 w2 t.heap e2 e3 e4 e5
    exact Or.inl ⟨⟨v', φ', w', by rw [e1, c1], c2, c3, c4, c5⟩, r⟩
  · exact absurd h2 (hx E w2)
/-- Math.min at any world -/
theorem ab_min {x y : Int32} (h : Q (Sum.inl (some (zI (if y < x then y else x)))) w) : ab_C g mJ9_min_7cf53 d 0 0 [zI x, zI y] w Q := by
  refine ab_enterF (L0 := [(0, zI x), (1, zI y)]) (by decide +kernel) (Nat.le_of_ble_eq_true rfl) rfl ?_
  refine ab_iload_n 0 dJ9_min_7cf53_0 rfl rfl ?_
  refine ab_iload_n 1 dJ9_min_7cf53_1 rfl rfl ?_
  refine ab_icmp_gt (tgt := 9) dJ9_min_7cf53_2 (by decide) (fun hc => ?_) (fun hc => ?_)
  · rw [if_pos hc] at h
    refine ab_iload_n 1 dJ9_min_7cf53_9 rfl rfl ?_
    exact ab_iret (ty := .int) dJ9_min_7cf53_10 rfl rfl h
  · rw [if_neg hc] at h
    refine ab_iload_n 0 dJ9_min_7cf53_5 rfl rfl ?_
    refine ab_goto (tgt := 10) dJ9_min_7cf53_6 (by decide) ?_
    exact ab_iret (ty := .int) dJ9_min_7cf53_10 rfl rfl h
/-- the first N of array i come into array i2 -/
def ab_cp (w : ab_W) (k i i2 N : Nat) : ab_W := (fun a b c => if a = k ∧ b = i2 ∧ c < N then w.1 k i c else w.1 a b c, w.2)
theorem acp_l : Cond.methodLink RJ7 150 arraycopyName ∈ lw_tbl := List.mem_of_getElem? (i := 933) (by decide +kernel)
theorem acp_s : Cond.static arraycopyName ∈ lw_tbl := List.mem_of_getElem? (i := 934) (by decide +kernel)
theorem acp_n : Cond.native arraycopyName ∈ lw_tbl := List.mem_of_getElem? (i := 935) (by decide +kernel)
theorem acp_i : Cond.initialized "java/lang/System" ∈ lw_tbl := List.mem_of_getElem? (i := 135) (by decide +kernel)
theorem ab_copy {k i i2 n0 n1 N idx : Nat} (hk : 12 ≤ k ∧ k < 65) (ht : ab_et k = .int) (hro : ab_ro k = false) (hl : Cond.methodLink M.1.cls idx arraycopyName ∈ lw_tbl) (hl0 : w.2.2.2.2 k i = n0) (hl1 : w.2.2.2.2 k i2 = n1) (hN0 : N ≤ n0) (hN1 : N ≤ n1) (hN : N < 2 ^ 30) (hd : decode M.2.1 pc = .ok (.invokestatic idx, 3)) (hd1 : 1 ≤ d) (kk : ab_G g M d bc bs (pc + 3) L [] (ab_cp w k i i2 N) Q) : ab_G g M d bc bs pc L [zI (nI N), zI 0, zR k i2, zI 0, zR k i] w Q := by
  intro Z p e R s m args below meth c mc ms X φ0 w0 φ H locs cells slots ls F
  have X0 := X
  obtain ⟨f1, f2, f3, f4, f5, f6, f7⟩ := F
  obtain ⟨x1, x2, x3, x4, x5, x6, x7, x8, x9, x10, x11, x12⟩ := X
  have hi : i < w.2.2.2.1 k := f7 (zR k i) (by simp) k i rfl
  have hi2 : i2 < w.2.2.2.1 k := f7 (zR k i2) (by simp) k i2 rfl
  obtain ⟨hc0, hA, -⟩ := ab_arr Z x7 f2 hk hi hro
  obtain ⟨hc1, -, -⟩ := ab_arr Z x7 f2 hk hi2 hro
  rw [hl0, ab_ev_int (Or.inl ht)] at hc0
  rw [hl1, ab_ev_int (Or.inl ht)] at hc1
  rw [ht] at hA
  have hb0 := f2.2.2.2.2.1 k i2 hi2 hro
  intro T hT XT
  obtain ⟨-, k0, hk0, cm0, hkk0⟩ := hA n0 (fun j => .int (w.1 k i j))
  obtain ⟨-, k1, hk1, cm1, hkk1⟩ := hA n1 (fun j => .int (w.1 k i2 j))
  have hp : ¬ nI N < 0 := nI_pos (by omega)
  obtain ⟨vm', X', step⟩ := XT.arraycopy x1 x4 (ab_word Z x7 hl rfl args) (ab_word Z x7 acp_n rfl args) (ab_word Z x7 acp_s rfl args) (ab_word Z x7 acp_i rfl args) (src := φ k i) (dst := φ k i2) (cs := arrV (g.2.2.2.2.1 k) n0 (fun j => .int (w.1 k i j))) (cd := arrV (g.2.2.2.2.1 k) n1 (fun j => .int (w.1 k i2 j))) (srcPos := 0) (destPos := 0) (n := nI N) (by rw [hT]; exact hc0) (by rw [hT]; exact hc1)
    (fun _ h => by cases h) (fun _ h => by cases h) (fun h => by cases h) (fun h => by cases h) hk0 hk1 hkk0 hkk1 (by decide) (by decide) (by decide) hp
    (by rw [arrV_size, nI_toInt (by omega), show (0 : Int32).toInt = 0 from by decide]; omega)
    (by rw [arrV_size, nI_toInt (by omega), show (0 : Int32).toInt = 0 from by decide]; omega)
    (fun vm₁ _ j hj => by
      rw [nI_clamp (by omega)] at hj
      rw [show (0 : Int32).toNatClampNeg = 0 from by decide, Nat.zero_add]
      have e : (arrV (g.2.2.2.2.1 k) n0 (fun j => .int (w.1 k i j))).slots.getD j .null = .int (w.1 k i j) := by
        rw [Array.getD_eq_getD_getElem?, arrV_read _ _ (by omega)]
        rfl
      rw [e]
      exact ⟨rfl, trivial⟩)
    (g := F0 m pc ls [.int (nI N), .int 0, .ref (φ k i2), .int 0, .ref (φ k i)]) rfl (by show ls.size = c.maxLocals; rw [x3, f5.1]) (rest := []) rfl (by rw [x2]; exact hd) (by omega) (by have hw : nativeFrameWords "java/lang/System" "arraycopy" 5 = 7 := (by decide); show 2 * 0 + 0 + _ ≤ _; omega)
  have e1 : copied (arrV (g.2.2.2.2.1 k) n0 (fun j => .int (w.1 k i j))) (arrV (g.2.2.2.2.1 k) n1 (fun j => .int (w.1 k i2 j))) 0 0 (nI N) = arrV (g.2.2.2.2.1 k) n1 (fun j => .int (va_cpy (w.1 k i) (w.1 k i2) 0 0 N j)) := by
    have := va_copied (fun z => Value.int z) (g.2.2.2.2.1 k) (g.2.2.2.2.1 k) (n0 := n0) (n1 := n1) (sp := 0) (dp := 0) (n := N) (w.1 k i) (w.1 k i2) (by omega)
    rw [← this]
    show Cell.storeRun _ _ _ = _
    rw [nI_clamp (by omega), show (0 : Int32).toNatClampNeg = 0 from by decide]
  rw [e1] at X' step
  have hlt : φ k i2 < H.size := (Array.getElem?_eq_some_iff.mp hc1).1
  have hheap : ((T.setVm vm').setCell (φ k i2) (arrV (g.2.2.2.2.1 k) n1 (fun j => .int (va_cpy (w.1 k i) (w.1 k i2) 0 0 N j)))).heap = H.setIfInBounds (φ k i2) (arrV (g.2.2.2.2.1 k) n1 (fun j => .int (va_cpy (w.1 k i) (w.1 k i2) 0 0 N j))) := by rw [← hT]; rfl
  have oq : ∀ q : Nat, q ≠ φ k i2 → (H.setIfInBounds (φ k i2) (arrV (g.2.2.2.2.1 k) n1 (fun j => .int (va_cpy (w.1 k i) (w.1 k i2) 0 0 N j))))[q]? = H[q]? := fun q hq => by simp [Array.getElem?_setIfInBounds, Ne.symm hq]
  have at2 : (H.setIfInBounds (φ k i2) (arrV (g.2.2.2.2.1 k) n1 (fun j => .int (va_cpy (w.1 k i) (w.1 k i2) 0 0 N j))))[φ k i2]? = some (arrV (g.2.2.2.2.1 k) n1 (fun j => .int (va_cpy (w.1 k i) (w.1 k i2) 0 0 N j))) := by simp [Array.getElem?_setIfInBounds, hlt]
  have hR : ab_HR g φ (ab_cp w k i i2 N) (H.setIfInBounds (φ k i2) (arrV (g.2.2.2.2.1 k) n1 (fun j => .int (va_cpy (w.1 k i) (w.1 k i2) 0 0 N j)))) := by
    refine f2.put (k := k) (i := i2) hk.2 hi2 hro rfl (fun a b hne => ⟨by funext z; exact if_neg (fun q => hne ⟨q.1, q.2.1⟩), rfl, rfl⟩) (fun j x => f2.2.2.2.2.2.1 k i2 j x hi2) ⟨fun q hq => absurd (ab_cls k q hq).1 (by omega), fun _ => ab_ar.of ?_⟩ (by simp) oq
    rw [at2, ab_ev_int (Or.inl ht), show (ab_cp w k i i2 N).2.2.2.2 k i2 = n1 from hl1]
    congr 2
    funext j
    show Value.int (if 0 ≤ j ∧ j < 0 + N then _ else _) = Value.int (if k = k ∧ i2 = i2 ∧ j < N then _ else _)
    by_cases hj : j < N
    · rw [if_pos ⟨by omega, by omega⟩, if_pos ⟨rfl, rfl, hj⟩, show 0 + (j - 0) = j by omega]
    · rw [if_neg (by omega), if_neg (fun q => hj q.2.2)]
  obtain ⟨t, a1, b1⟩ := kk Z p e R s m args below meth c mc ms X0 φ0 w0 φ _ _ cells slots ls ⟨f1, hR, f3, (fun q hq => by
      rcases List.mem_append.mp hq with h | h
      · exact f4 q h
      · obtain ⟨z, -, hz⟩ := List.mem_map.mp h
        rw [← hz]
        exact hb0), f5, f6, fun v hv => by cases hv⟩ _ hheap X'
  exact ⟨t, step t a1, b1⟩
end CO
