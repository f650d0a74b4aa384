/-! ends, entries, calls, throws over abstract worlds -/
section AB4
variable {g : ab_E} {M : ab_M} {d bc bs pc : Nat} {L : List (Nat × ab_V)} {st : List ab_V} {w : ab_W} {Q : ab_O → ab_W → Prop}
theorem ab_iret {x : Int32} {ty : FieldType} (hd : decode M.2.1 pc = .ok (.ireturn, 1)) (hr : M.2.2.2 = some ty) (hn : narrow ty (.int x) = .int x) (hQ : Q (Sum.inl (some (zI x))) w) : ab_G g M d bc bs pc L [zI x] w Q := by
  intro Z p e R s m args below meth c mc ms X φ0 w0 φ H locs cells slots ls F
  obtain ⟨f1, f2, f3, f4, f5, f6, f7⟩ := F
  have hlocks : meth.locks = false := X.2.2.2.2.2.1
  exact vx_ret (W.widen (k := mc) (n := ms) (by omega) (by omega) (W.zret X.1 X.2.1 (X.2.2.2.2.1.trans hr) hn (fun t ht hW => ⟨some (zI x), φ, w, rfl, hQ, by rw [ht]; exact f2, f3, fun y hy => by cases hy; exact ab_okI⟩) f4 hd))
theorem ab_lret {x : Int64} (hd : decode M.2.1 pc = .ok (.lreturn, 1)) (hr : M.2.2.2 = some .long) (hQ : Q (Sum.inl (some (zJ x))) w) : ab_G g M d bc bs pc L [zJ x] w Q := by
  intro Z p e R s m args below meth c mc ms X φ0 w0 φ H locs cells slots ls F
  obtain ⟨f1, f2, f3, f4, f5, f6, f7⟩ := F
  have hlocks : meth.locks = false := X.2.2.2.2.2.1
  exact vx_ret (W.widen (k := mc) (n := ms) (by omega) (by omega) (W.lret X.1 X.2.1 (X.2.2.2.2.1.trans hr) (fun t ht hW => ⟨some (zJ x), φ, w, rfl, hQ, by rw [ht]; exact f2, f3, fun y hy => by cases hy; exact ab_okJ⟩) f4 hd))
theorem ab_vret (hd : decode M.2.1 pc = .ok (.return_, 1)) (hr : M.2.2.2 = none) (hQ : Q (Sum.inl none) w) : ab_G g M d bc bs pc L [] w Q := by
  intro Z p e R s m args below meth c mc ms X φ0 w0 φ H locs cells slots ls F
  obtain ⟨f1, f2, f3, f4, f5, f6, f7⟩ := F
  have hlocks : meth.locks = false := X.2.2.2.2.2.1
  exact vx_ret (W.widen (k := mc) (n := ms) (by omega) (by omega) (W.vret X.1 X.2.1 (X.2.2.2.2.1.trans hr) (fun t ht hW => ⟨none, φ, w, rfl, hQ, by rw [ht]; exact f2, f3, fun y hy => by cases hy⟩) f4 hd))
theorem ab_aret {k i : Nat} {ty : FieldType} (hd : decode M.2.1 pc = .ok (.areturn, 1)) (hr : M.2.2.2 = some ty) (ht : (∃ n, ty = .object n) ∨ ∃ t, ty = .array t) (hQ : Q (Sum.inl (some (zR k i))) w) : ab_G g M d bc bs pc L [zR k i] w Q := by
  intro Z p e R s m args below meth c mc ms X φ0 w0 φ H locs cells slots ls F
  obtain ⟨f1, f2, f3, f4, f5, f6, f7⟩ := F
  have hlocks : meth.locks = false := X.2.2.2.2.2.1
  exact vx_ret (W.widen (k := mc) (n := ms) (by omega) (by omega) (W.aret X.1 X.2.1 (X.2.2.2.2.1.trans hr) ht (Or.inr ⟨φ k i, rfl⟩) (fun t ht hW => ⟨some (zR k i), φ, w, rfl, hQ, by rw [ht]; exact f2, f3, fun y hy => by cases hy; exact f7 _ List.mem_cons_self⟩) f4 hd))
def ab_args : Nat → List ab_V → List (Nat × ab_V)
  | _, [] => []
  | i, v :: vs => (i, v) :: ab_args (if ab_cat v = 2 then i + 2 else i + 1) vs
theorem ab_args_map (φ : Nat → Nat → Nat) : ∀ (vs : List ab_V) (i : Nat), lv_args i (vs.map (ab_vl φ)) = (ab_args i vs).map (fun q => (q.1, ab_vl φ q.2))
  | [], _ => rfl
  | v :: vs, i => by
    show (i, ab_vl φ v) :: lv_args (if (ab_vl φ v).category = 2 then i + 2 else i + 1) (vs.map (ab_vl φ)) = _
    rw [ab_args_map φ vs, ab_cat_vl]
    rfl
def ab_sz : List ab_V → Nat
  | [] => 0
  | v :: vs => ab_cat v + ab_sz vs
theorem ab_sl_len (φ : Nat → Nat → Nat) : ∀ vs : List ab_V, (lg_sl (vs.map (ab_vl φ))).length = ab_sz vs
  | [] => rfl
  | v :: vs => by
    have ih := ab_sl_len φ vs
    unfold lg_sl at ih ⊢
    rw [List.map_cons, List.flatMap_cons, List.length_append, ih]
    show _ = ab_cat v + ab_sz vs
    congr 1
    rcases v with x | x | x | x
    · rfl
    · rfl
    · rfl
    · cases x <;> rfl
theorem ab_args_ok {w : ab_W} : ∀ (vs : List ab_V) (i : Nat), (∀ v ∈ vs, ab_ok w v) → ∀ q ∈ ab_args i vs, ab_ok w q.2
  | [], _, _, q, hq => by cases hq
  | v :: vs, i, h, q, hq => by
    rcases List.mem_cons.mp hq with rfl | hq
    · exact h v List.mem_cons_self
    · exact ab_args_ok vs _ (fun v hv => h v (List.mem_cons_of_mem _ hv)) q hq
/-- a method's contract out of its frame's judgement -/
theorem ab_enter {args : List ab_V} {mc ms : Nat} {L0 : List (Nat × ab_V)} (hy : plainName M.1.cls = true) (hsz : ab_sz args ≤ M.2.2.1) (hL : ab_args 0 args = L0) (k : ab_G g M d mc ms 0 L0 [] w Q) : ab_C g M d mc ms args w Q := by
  intro Z hok φ
  refine vx_ofW (cc := M.2.1) (maxL := M.2.2.1) (ret := M.2.2.2) hy rfl ?_
  intro p e s m a below meth c s₁ B hml ht hv
  obtain ⟨rfl, hW, hHR⟩ := hv
  have hl := lv_entry (args.map (ab_vl φ)) (n := M.2.2.1) (by rw [ab_sl_len]; exact hsz)
  rw [lg_entry_eq]
  generalize (lg_sl (args.map (ab_vl φ)) ++ List.replicate (M.2.2.1 - (lg_sl (args.map (ab_vl φ))).length) Slot.unset).toArray = ls at hl ⊢
  rw [ab_args_map φ args 0, hL] at hl
  have hown : s.vm.findClass M.1.cls = some m.cls := findClass_of_methodNamed B.named
  exact k Z p e (ab_rm d mc ms) s m _ below meth c mc ms ⟨B.exec, B.bytes, hml, hown, B.returns, B.notSynchronized, hW, ht, (name_of_methodNamed B.named B.method).1, Nat.le_refl _, Nat.le_refl _, Nat.le_refl _, Nat.le_refl _, hHR.1, hHR.2.1⟩ φ w φ s.heap [] 0 0 ls ⟨⟨by omega, by omega⟩, hHR, ab_ext.rf, (fun q hq => by cases hq), hl, (fun q hq => by rw [← hL] at hq; exact ab_args_ok args 0 hok q hq), (fun v hv => by cases hv)⟩
/-- a call's link: class own, entry idx, is the method y with its code in the tables -/
def ab_ml (own : String) (idx : Nat) (N : ab_M) (n : Nat) : Prop := Cond.methodLink own idx N.1 ∈ lw_tbl ∧ Cond.code N.1 N.2.1 N.2.2.1 N.2.2.2 ∈ lw_tbl ∧ Cond.initialized N.1.cls ∈ lw_tbl ∧ (N.1.cls ≠ "java/lang/invoke/MethodHandle" ∧ N.1.cls ≠ "java/lang/invoke/VarHandle") ∧ (parseMethodDescriptor N.1.desc).map (fun d => d.parameters.length) = some n
theorem ab_callB {N : ab_M} {idx n dy mc ms : Nat} {R : Room} {s : State} {args : Array Value} (Z : ab_Z g) (hW : g.2.1.WarmedH s.vm) (hl : ab_ml M.1.cls idx N n) (hR : dy + 1 ≤ R.frames ∧ 8 + (N.2.2.1 + 11) + 60 * dy ≤ R.locals) : CallB R s args M.1.cls idx N.1 N.2.1 N.2.2.1 N.2.2.2 [Cond.code N.1 N.2.1 N.2.2.1 N.2.2.2] (ab_rm dy mc ms) mc ms n := by
  obtain ⟨h1, h2, h3, h4, h5⟩ := hl
  refine ⟨rfl, rfl, hR.1, hR.2, fun w hw a U hU => ?_, List.mem_singleton.mpr rfl, ab_word Z hW h2 rfl args, ab_word Z hW h3 rfl args, h4, fun sig h => ?_, ab_word Z hW h1 rfl args⟩
  · rw [List.mem_singleton.mp hw]
    exact ab_word Z (State.WarmedH.trans hW hU) h2 rfl a
  · rw [h] at h5
    exact (Option.some.inj h5).symm
theorem ab_blind {φ : Nat → Nat → Nat} {args : List ab_V} : FrameBlind (ab_Pc g φ w args) := fun a U f mk h => h
/-- behind a call: the answer, or the throw goes on -/
theorem ab_after {N : ab_M} {dy my sy : Nat} {As : List ab_V} {rest st0 : List ab_V} {Qy : ab_O → ab_W → Prop} {p : Program} {e : Env} {R : Room} {s : State} {m : MethodId} {args : Array Value} {below : List Frame} {meth : Method} {c : Code} {mc ms : Nat} (Z : ab_Z g) (X : ab_X g M d mc ms p R s m meth c) {φ0 : Nat → Nat → Nat} {w0 : ab_W} {φ : Nat → Nat → Nat} {H : Heap} {locs : List Loc} {cells slots : Nat} {ls : Array Slot} (F : ab_F g M bc bs mc ms L st0 w φ0 w0 φ H locs cells slots ls)
    (hr : vx_Run p g.1 e R s m args below meth c H locs cells slots my sy (F0 m pc ls (st0.map (ab_vl φ))) (rest.map (ab_vl φ)) (ab_QQ g φ w Qy (As.map (ab_vl φ)).toArray) (ab_XX g φ w Qy) (fun q => g.2.1.heap.size ≤ q))
    (hb : my ≤ bc ∧ sy ≤ bs) (hs : ∀ x ∈ rest, x ∈ st0) (kk : ∀ (v : Option ab_V) (w' : ab_W), Qy (Sum.inl v) w' → ab_G g M d (bc - my) (bs - sy) (pc + 3) L (v.toList ++ rest) w' Q) (kx : ∀ (E : String) (w' : ab_W), Qy (Sum.inr E) w' → Q (Sum.inr E) w') :
    W p g.1 e R s m args below meth c H locs cells slots (vx_MQ below (ab_QQ g φ0 w0 Q) (ab_XX g φ0 w0 Q) args s mc ms (fun q => g.2.1.heap.size ≤ q)) (F0 m pc ls (st0.map (ab_vl φ))) := by
  obtain ⟨f1, f2, f3, f4, f5, f6, f7⟩ := F
  intro T hT XT
  have hlocs : ∀ L2 : List Loc, (∀ q ∈ L2, g.2.1.heap.size ≤ q.base) → ∀ q ∈ locs ++ L2, g.2.1.heap.size ≤ q.base := fun L2 h q hq => (List.mem_append.mp hq).elim (f4 q) (h q)
  rcases hr T hT XT with ⟨v, st₀, t, T', L2, h0, X', hL2, e1, e2, ⟨v9, φ', w', ho, hq, hH, hext, hvok⟩, stp⟩ | ⟨q, st₀, t, T', L2, E, ce, h0, X', hL2, e1, e2, ⟨φ', w', hq, hH, hext⟩, hce, hcv, hcl, stp⟩
  · cases ho
    have hst : rest.map (ab_vl φ) = rest.map (ab_vl φ') := List.map_congr_left fun x hx => (ab_vl_ext hext (f7 x (hs x hx))).symm
    have hl' : lv_has ls M.2.2.1 (L.map (fun q => (q.1, ab_vl φ' q.2))) := by
      have : L.map (fun q => (q.1, ab_vl φ' q.2)) = L.map (fun q => (q.1, ab_vl φ q.2)) := List.map_congr_left fun x hx => by rw [ab_vl_ext hext (f6 x hx)]
      rw [this]; exact f5
    have K := kk v9 w' hq Z p e R s m args below meth c mc ms X φ0 w0 φ' T'.heap (locs ++ L2) (cells + my) (slots + sy) ls ⟨⟨by omega, by omega⟩, by rw [e1]; exact hH, f3.tr hext, hlocs L2 hL2, hl', fun x hx => ab_ok_ext hext (f6 x hx), fun x hx => by
      rcases List.mem_append.mp hx with h | h
      · cases v9 with
        | none => cases h
        | some y => rw [List.mem_singleton.mp h]; exact hvok y rfl
      · exact ab_ok_ext hext (f7 x (hs x h))⟩
    obtain ⟨t2, a1, b1⟩ := K T' rfl X'
    refine ⟨t2, stp t2 ?_, b1⟩
    have : (v9.toList ++ rest).map (ab_vl φ') = (v9.map (ab_vl φ')).toList ++ rest.map (ab_vl φ) := by
      rw [List.map_append, hst]
      cases v9 <;> rfl
    rw [this] at a1
    exact a1
  · have hlocks : meth.locks = false := X.2.2.2.2.2.1
    have K : vx_W p g.1 e R s m args below meth c T'.heap (locs ++ L2) (cells + my) (slots + sy) (vx_MQ below (ab_QQ g φ0 w0 Q) (ab_XX g φ0 w0 Q) args s mc ms (fun q => g.2.1.heap.size ≤ q)) (F0 m pc ls (rest.map (ab_vl φ))) q :=
      vx_out (fun x hx => absurd hx (fun h => X.2.2.2.2.2.2.2.1 x h)) hlocks (by rw [e1]; exact hce) hcv hcl (fun t9 ht9 _ => ⟨φ', w', kx E w' hq, by rw [ht9, e1]; exact hH, f3.tr hext⟩) (hlocs L2 hL2) (by omega) (by omega)
    obtain ⟨t2, a1, b1⟩ := K T' rfl X'
    exact ⟨t2, stp.trans a1, b1⟩
theorem ab_catsum (φ : Nat → Nat → Nat) : ∀ vs : List ab_V, ((vs.map (ab_vl φ)).map fun v => v.category).sum = ab_sz vs
  | [] => rfl
  | v :: vs => by
    rw [List.map_cons, List.map_cons, List.sum_cons, ab_catsum φ vs, ab_cat_vl]
    rfl
/-- an instance method of a known class -/
theorem ab_callV {N : ab_M} {idx n dy my sy k i : Nat} {C : String} {As rest : List ab_V} {Qy : ab_O → ab_W → Prop} (hl : ab_ml M.1.cls idx N n) (hin : Cond.instanceMethod N.1 ∈ lw_tbl) (hse : Cond.selects C N.1 N.1 ∈ lw_tbl) (hcl : (ab_cl[k]?).map (fun q => q.1) = some C) (hd : decode M.2.1 pc = .ok (.invokevirtual idx, 3)) (hst : As.reverse ++ zR k i :: rest = st) (hn : As.length = n)
    (hR : dy + 1 ≤ d ∧ 8 + (N.2.2.1 + 11) + 60 * dy ≤ 60 * d) (hb : my ≤ bc ∧ sy ≤ bs) (hz : ab_sz rest ≤ 8) (hC : ab_C g N dy my sy (zR k i :: As) w Qy)
    (kk : ∀ (v : Option ab_V) (w' : ab_W), Qy (Sum.inl v) w' → ab_G g M d (bc - my) (bs - sy) (pc + 3) L (v.toList ++ rest) w' Q) (kx : ∀ (E : String) (w' : ab_W), Qy (Sum.inr E) w' → Q (Sum.inr E) w') : ab_G g M d bc bs pc L st w Q := by
  intro Z p e R s m args below meth c mc ms X φ0 w0 φ H locs cells slots ls F
  have hW := X.2.2.2.2.2.2.1
  have hRf := X.2.2.2.2.2.2.2.2.2
  have hB : dy + 1 ≤ R.frames ∧ 8 + (N.2.2.1 + 11) + 60 * dy ≤ R.locals := ⟨by omega, by omega⟩
  subst hst
  have hi : i < w.2.2.2.1 k := F.2.2.2.2.2.2 _ (List.mem_append.mpr (Or.inr List.mem_cons_self)) k i rfl
  have hargs : ∀ v ∈ zR k i :: As, ab_ok w v := fun v hv => F.2.2.2.2.2.2 v (by
    rcases List.mem_cons.mp hv with rfl | h
    · exact List.mem_append.mpr (Or.inr List.mem_cons_self)
    · exact List.mem_append.mpr (Or.inl (List.mem_reverse.mpr h)))
  obtain ⟨q, hq, hqC⟩ := Option.map_eq_some_iff.mp hcl
  obtain ⟨cell, q1, q2, q3, -⟩ := (F.2.1.2.2.1 k i hi).1 q hq
  obtain ⟨-, hfc, -⟩ := (Z.2.2.1.moved hW.alike).1 k q hq
  have hF1 : cells + my ≤ R.cells ∧ slots + sy ≤ R.slots := ⟨by have := F.1.1; omega, by have := F.1.2; omega⟩
  have hrun := vx_runV (g := F0 m pc ls ((As.reverse ++ zR k i :: rest).map (ab_vl φ))) (As := As.map (ab_vl φ)) (rest := rest.map (ab_vl φ)) (b := φ k i) (Ts := []) (cells := cells) (slots := slots) (locs := locs) (H := H) (e := e) (below := below) (meth := meth)
    ⟨X.1, X.2.1, X.2.2.1, X.2.2.2.1, fun _ h => by cases h⟩ (hC Z hargs φ) ⟨ab_callB (R := R) (dy := dy) (mc := my) (ms := sy) Z hW hl hB, ab_word Z hW hin rfl args, ab_word Z hW hse rfl args⟩
    ⟨ab_blind, ⟨cell, q1, by rw [q3]; rfl, by rw [q2, ← hqC]; exact hfc⟩, fun U hU hUW => ⟨rfl, State.WarmedH.trans hW hUW, by rw [hU]; exact F.2.1⟩⟩ rfl (by rw [List.length_map]; exact hn) F.2.2.2.2.1.1
    (by show (As.reverse ++ zR k i :: rest).map (ab_vl φ) = _; rw [List.map_append, List.map_reverse]; rfl) (by show 2 * 0 + _ ≤ 8; rw [ab_catsum]; omega) hd hF1
  exact ab_after (As := zR k i :: As) (N := N) (dy := dy) Z X F hrun hb (fun x hx => List.mem_append.mpr (Or.inr (List.mem_cons_of_mem _ hx))) kk kx
theorem ab_callS {N : ab_M} {idx n dy my sy : Nat} {As rest : List ab_V} {Qy : ab_O → ab_W → Prop} (hl : ab_ml M.1.cls idx N n) (hin : Cond.static N.1 ∈ lw_tbl) (hd : decode M.2.1 pc = .ok (.invokestatic idx, 3)) (hst : As.reverse ++ rest = st) (hn : As.length = n)
    (hR : dy + 1 ≤ d ∧ 8 + (N.2.2.1 + 11) + 60 * dy ≤ 60 * d) (hb : my ≤ bc ∧ sy ≤ bs) (hz : ab_sz rest ≤ 8) (hC : ab_C g N dy my sy As w Qy)
    (kk : ∀ (v : Option ab_V) (w' : ab_W), Qy (Sum.inl v) w' → ab_G g M d (bc - my) (bs - sy) (pc + 3) L (v.toList ++ rest) w' Q) (kx : ∀ (E : String) (w' : ab_W), Qy (Sum.inr E) w' → Q (Sum.inr E) w') : ab_G g M d bc bs pc L st w Q := by
  intro Z p e R s m args below meth c mc ms X φ0 w0 φ H locs cells slots ls F
  have hW := X.2.2.2.2.2.2.1
  have hRf := X.2.2.2.2.2.2.2.2.2
  have hB : dy + 1 ≤ R.frames ∧ 8 + (N.2.2.1 + 11) + 60 * dy ≤ R.locals := ⟨by omega, by omega⟩
  subst hst
  have hargs : ∀ v ∈ As, ab_ok w v := fun v hv => F.2.2.2.2.2.2 v (List.mem_append.mpr (Or.inl (List.mem_reverse.mpr hv)))
  have hF1 : cells + my ≤ R.cells ∧ slots + sy ≤ R.slots := ⟨by have := F.1.1; omega, by have := F.1.2; omega⟩
  have hrun := vx_runS (g := F0 m pc ls ((As.reverse ++ rest).map (ab_vl φ))) (As := As.map (ab_vl φ)) (rest := rest.map (ab_vl φ)) (Ts := []) (cells := cells) (slots := slots) (locs := locs) (H := H) (e := e) (below := below) (meth := meth)
    ⟨X.1, X.2.1, X.2.2.1, X.2.2.2.1, fun _ h => by cases h⟩ (hC Z hargs φ) ⟨ab_callB (R := R) (dy := dy) (mc := my) (ms := sy) Z hW hl hB, ab_word Z hW hin rfl args⟩
    ⟨ab_blind, fun U hU hUW => ⟨rfl, State.WarmedH.trans hW hUW, by rw [hU]; exact F.2.1⟩⟩ rfl (by rw [List.length_map]; exact hn) F.2.2.2.2.1.1
    (by show (As.reverse ++ rest).map (ab_vl φ) = _; rw [List.map_append, List.map_reverse]) (by show 2 * 0 + _ ≤ 8; rw [ab_catsum]; omega) hd hF1
  exact ab_after (As := As) (N := N) (dy := dy) Z X F hrun hb (fun x hx => List.mem_append.mpr (Or.inr hx)) kk kx
theorem ab_C.mono {N : ab_M} {dy my sy : Nat} {As : List ab_V} {Q1 Q2 : ab_O → ab_W → Prop} (h : ab_C g N dy my sy As w Q1) (hq : ∀ o w', Q1 o w' → Q2 o w') : ab_C g N dy my sy As w Q2 := by
  intro Z hok φ p e ha hc hk s m args below hf hap hP hT
  obtain ⟨k, o, h1, h2, h3, h4⟩ := h Z hok φ p e ha hc hk s m args below hf hap hP hT
  refine ⟨k, o, h1, h2, h3, ?_⟩
  rcases h4 with ⟨⟨v, φ', w', a1, a2, a3⟩, b⟩ | ⟨q, hq1, E, ce, L2, ⟨φ', w', a1, a2⟩, b⟩
  · exact Or.inl ⟨⟨v, φ', w', a1, hq _ _ a2, a3⟩, b⟩
  · exact Or.inr ⟨q, hq1, E, ce, L2, ⟨φ', w', hq _ _ a1, a2⟩, b⟩
end AB4
