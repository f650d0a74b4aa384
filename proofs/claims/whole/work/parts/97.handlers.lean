/-! METHODS WITH HANDLERS over abstract worlds: the same rules with a known table -/
def ab_XH (hh : List (Nat × Nat × Nat × Nat)) (g : ab_E) (M : ab_M) (d mc ms : Nat) (p : Program) (R : Room) (s : State) (m : MethodId) (meth : Method) (c : Code) : Prop :=
  p.tables.exec = Jvm.exec ∧ c.code = M.2.1 ∧ c.maxLocals = M.2.2.1 ∧ s.vm.findClass M.1.cls = some m.cls ∧ meth.sig.returnType = M.2.2.2 ∧ meth.locks = false ∧ g.2.1.WarmedH s.vm ∧ c.exceptionTable.toList = tableOf hh ∧ meth.name = M.1.name ∧ d ≤ R.frames ∧ 60 * d ≤ R.locals ∧ mc ≤ R.cells ∧ ms ≤ R.slots ∧ (∀ q : Nat, q < g.2.1.heap.size → s.heap[q]? = g.2.1.heap[q]?) ∧ g.2.1.heap.size ≤ s.heap.size
def ab_GH (hh : List (Nat × Nat × Nat × Nat)) (g : ab_E) (M : ab_M) (d bc bs pc : Nat) (L : List (Nat × ab_V)) (st : List ab_V) (w : ab_W) (Q : ab_O → ab_W → Prop) : Prop :=
  ab_Z g → ∀ (p : Program) (e : Env) (R : Room) (s : State) (m : MethodId) (args : Array Value) (below : List Frame) (meth : Method) (c : Code) (mc ms : Nat), ab_XH hh g M d mc ms p R s m meth c →
    ∀ (φ0 : Nat → Nat → Nat) (w0 : ab_W) (φ : Nat → Nat → Nat) (H : Heap) (locs : List Loc) (cells slots : Nat) (ls : Array Slot), ab_F g M bc bs mc ms L st w φ0 w0 φ H locs cells slots ls →
      W p g.1 e R s m args below meth c H locs cells slots (vx_MQ below (ab_QQ g φ0 w0 Q) (ab_XX g φ0 w0 Q) args s mc ms (fun q => g.2.1.heap.size ≤ q)) (F0 m pc ls (st.map (ab_vl φ)))
section ABH
variable {hh : List (Nat × Nat × Nat × Nat)} {g : ab_E} {M : ab_M} {d bc bs pc : Nat} {L : List (Nat × ab_V)} {st : List ab_V} {w : ab_W} {Q : ab_O → ab_W → Prop}
theorem ab_stepH {pc' : Nat} {st' : List ab_V} (k : ab_GH hh g M d bc bs pc' L st' w Q) (hs : (∀ q ∈ L, ab_ok w q.2) → (∀ v ∈ st, ab_ok w v) → ∀ v ∈ st', ab_ok w v)
    (h : ∀ (p : Program) (e : Env) (R : Room) (s : State) (m : MethodId) (args : Array Value) (below : List Frame) (meth : Method) (c : Code) (φ : Nat → Nat → Nat) (H : Heap) (locs : List Loc) (cells slots : Nat) (ls : Array Slot) (Q' : State → Prop), p.tables.exec = Jvm.exec → c.code = M.2.1 → g.2.1.WarmedH s.vm → s.vm.findClass M.1.cls = some m.cls → ab_Z g →
      (∀ (i : Nat) (v : ab_V), (i, v) ∈ L → ls[i]? = some (.val (ab_vl φ v))) → W p g.1 e R s m args below meth c H locs cells slots Q' (F0 m pc' ls (st'.map (ab_vl φ))) → W p g.1 e R s m args below meth c H locs cells slots Q' (F0 m pc ls (st.map (ab_vl φ)))) : ab_GH hh g M d bc bs pc L st w Q := by
  intro Z p e R s m args below meth c mc ms X φ0 w0 φ H locs cells slots ls F
  obtain ⟨f1, f2, f3, f4, f5, f6, f7⟩ := F
  exact h p e R s m args below meth c φ H locs cells slots ls _ X.1 X.2.1 X.2.2.2.2.2.2.1 X.2.2.2.1 Z (fun i v hv => f5.2.2 _ (List.mem_map.mpr ⟨(i, v), hv, rfl⟩)) (k Z p e R s m args below meth c mc ms X φ0 w0 φ H locs cells slots ls ⟨f1, f2, f3, f4, f5, f6, hs f6 f7⟩)
theorem ab_iconstH {n : Int} {v : Int32} (hd : decode M.2.1 pc = .ok (.iconst n, 1)) (hv : Int32.ofInt n = v) (k : ab_GH hh g M d bc bs (pc + 1) L (zI v :: st) w Q) : ab_GH hh g M d bc bs pc L st w Q := ab_stepH k (ab_p0 ab_okI) fun _ _ _ _ _ _ _ _ _ _ _ _ _ _ _ _ hx hb _ _ _ _ kk => lv_iconst hx hb hd hv kk
theorem ab_iload_nH {n : Fin 4} {i : Nat} {x : Int32} (j : Nat) (hd : decode M.2.1 pc = .ok (.iload_n n, 1)) (hi : (n : Nat) = i) (hl : L[j]? = some (i, zI x)) (k : ab_GH hh g M d bc bs (pc + 1) L (zI x :: st) w Q) : ab_GH hh g M d bc bs pc L st w Q := ab_stepH k (ab_p0 ab_okI) fun _ _ _ _ _ _ _ _ _ _ _ _ _ _ _ _ hx hb _ _ _ ha kk => lv_iload_n hx hb hd hi (ha _ _ (List.mem_of_getElem? hl)) kk
theorem ab_iloadH {i : Nat} {x : Int32} (j : Nat) (hd : decode M.2.1 pc = .ok (.iload i, 2)) (hl : L[j]? = some (i, zI x)) (k : ab_GH hh g M d bc bs (pc + 2) L (zI x :: st) w Q) : ab_GH hh g M d bc bs pc L st w Q := ab_stepH k (ab_p0 ab_okI) fun _ _ _ _ _ _ _ _ _ _ _ _ _ _ _ _ hx hb _ _ _ ha kk => lv_iload hx hb hd (ha _ _ (List.mem_of_getElem? hl)) kk
theorem ab_aload_nH {n : Fin 4} {i a b : Nat} (j : Nat) (hd : decode M.2.1 pc = .ok (.aload_n n, 1)) (hi : (n : Nat) = i) (hl : L[j]? = some (i, zR a b)) (k : ab_GH hh g M d bc bs (pc + 1) L (zR a b :: st) w Q) : ab_GH hh g M d bc bs pc L st w Q := ab_stepH k (ab_pL (List.mem_of_getElem? hl)) fun _ _ _ _ _ _ _ _ _ _ _ _ _ _ _ _ hx hb _ _ _ ha kk => lv_aload_n hx hb hd hi (ha _ _ (List.mem_of_getElem? hl)) kk
theorem ab_aloadH {i a b : Nat} (j : Nat) (hd : decode M.2.1 pc = .ok (.aload i, 2)) (hl : L[j]? = some (i, zR a b)) (k : ab_GH hh g M d bc bs (pc + 2) L (zR a b :: st) w Q) : ab_GH hh g M d bc bs pc L st w Q := ab_stepH k (ab_pL (List.mem_of_getElem? hl)) fun _ _ _ _ _ _ _ _ _ _ _ _ _ _ _ _ hx hb _ _ _ ha kk => lv_aload hx hb hd (ha _ _ (List.mem_of_getElem? hl)) kk
theorem ab_i2lH {x : Int32} (hd : decode M.2.1 pc = .ok (.i2l, 1)) (k : ab_GH hh g M d bc bs (pc + 1) L (zJ x.toInt64 :: st) w Q) : ab_GH hh g M d bc bs pc L (zI x :: st) w Q := ab_stepH k (ab_p1 ab_okJ) fun _ _ _ _ _ _ _ _ _ _ _ _ _ _ _ _ hx hb _ _ _ _ kk => lv_i2l hx hb hd rfl kk
theorem ab_gotoH {off : Int} {tgt : Nat} (hd : decode M.2.1 pc = .ok (.goto off, 3)) (ht : (pc : Int) + off = (tgt : Int)) (k : ab_GH hh g M d bc bs tgt L st w Q) : ab_GH hh g M d bc bs pc L st w Q := ab_stepH k ab_q0 fun _ _ _ _ _ _ _ _ _ _ _ _ _ _ _ _ hx hb _ _ _ _ kk => lv_goto hx hb hd ht kk
theorem ab_astGH {k i j : Nat} {st' : List ab_V} {w' : ab_W} {p : Program} {e : Env} {R : Room} {s : State} {m : MethodId} {args : Array Value} {below : List Frame} {meth : Method} {c : Code} {mc ms : Nat} (Z : ab_Z g) (X : ab_XH hh g M d mc ms p R s m meth c) {φ0 : Nat → Nat → Nat} {w0 : ab_W} {φ : Nat → Nat → Nat} {H : Heap} {locs : List Loc} {cells slots : Nat} {ls : Array Slot} (F : ab_F g M bc bs mc ms L st w φ0 w0 φ H locs cells slots ls)
    (hs : ∀ x ∈ st', x ∈ st) (hk : 12 ≤ k ∧ k < 65) (hi : i < w.2.2.2.1 k) (hro : ab_ro k = false) (hc : w'.2.2.2 = w.2.2.2) (hw : ∀ a b, ¬ (a = k ∧ b = i) → w'.1 a b = w.1 a b ∧ w'.2.1 a b = w.2.1 a b ∧ w'.2.2.1 a b = w.2.2.1 a b) (hR : ∀ j x, w'.2.2.1 k i j = some x → x < w.2.2.2.1 (ab_rt k j))
    {H' : Heap} (e1 : H'[φ k i]? = some (arrV (g.2.2.2.2.1 k) (w'.2.2.2.2 k i) (ab_ev φ w' k i))) (e2 : H'.size = H.size) (e3 : ∀ q, q ≠ φ k i → H'[q]? = H[q]?) (kk : ab_GH hh g M d bc bs (pc + 1) L st' w' Q) :
    W p g.1 e R s m args below meth c H' (locs ++ [⟨φ k i, j⟩]) cells slots (vx_MQ below (ab_QQ g φ0 w0 Q) (ab_XX g φ0 w0 Q) args s mc ms (fun q => g.2.1.heap.size ≤ q)) (F0 m (pc + 1) ls (st'.map (ab_vl φ))) := by
  obtain ⟨f1, f2, f3, f4, f5, f6, f7⟩ := F
  have okc : ∀ v, ab_ok w v → ab_ok w' v := fun v h a b e => by rw [hc]; exact h a b e
  have hb0 := f2.2.2.2.2.1 k i hi hro
  refine kk Z p e R s m args below meth c mc ms X φ0 w0 φ H' _ cells slots ls ⟨f1, f2.put (by omega) hi hro hc hw hR ⟨fun q9 hq9 => ?_, fun h12 => ab_ar.of e1⟩ e2 e3, fun a b hb => ?_, ?_, f5, fun x hx => okc _ (f6 x hx), fun x hx => okc _ (f7 x (hs x hx))⟩
  · exact absurd (ab_cls k q9 hq9).1 (by omega)
  · rw [hc]; exact f3 a b hb
  · intro x hx
    rcases List.mem_append.mp hx with h | h
    · exact f4 x h
    · rw [List.mem_singleton.mp h]; exact hb0
theorem ab_lastoreH {k i n : Nat} {x : Int32} {y : Int64} (hk : 12 ≤ k ∧ k < 65) (ht : ab_et k = .long) (hro : ab_ro k = false) (hd : decode M.2.1 pc = .ok (.lastore, 1)) (hn : w.2.2.2.2 k i = n) (hin : vp_in x n) (kk : ab_GH hh g M d bc bs (pc + 1) L st (ab_sJ w k i x.toNatClampNeg y) Q) : ab_GH hh g M d bc bs pc L (zJ y :: zI x :: zR k i :: st) w Q := by
  intro Z p e R s m args below meth c mc ms X φ0 w0 φ H locs cells slots ls F
  have hi := F.2.2.2.2.2.2 _ (List.mem_cons_of_mem _ (List.mem_cons_of_mem _ List.mem_cons_self)) k i rfl
  obtain ⟨h1, h2, -⟩ := ab_arr Z X.2.2.2.2.2.2.1 F.2.1 hk hi hro
  rw [ht] at h2
  refine W.last X.1 X.2.1 h1 (h2 _ _) (fun q => by cases q) (ab_inb (by rw [hn]; exact hin)) rfl rfl hd fun H' e1 e2 e3 => ?_
  refine ab_astGH (w' := ab_sJ w k i x.toNatClampNeg y) Z X F ab_sub3 hk hi hro rfl (fun a b h => ⟨rfl, by funext z; exact if_neg (fun q => h ⟨q.1, q.2.1⟩), rfl⟩) (fun j z => F.2.1.2.2.2.2.2.1 k i j z hi) ?_ e2 e3 kk
  rw [e1, arrV_store, ab_ev_long ht, ab_ev_long ht]
  congr 2
  funext z
  by_cases ez : z = x.toNatClampNeg <;> simp [updV, ab_sJ, ez]
theorem ab_iretH {x : Int32} {ty : FieldType} (hd : decode M.2.1 pc = .ok (.ireturn, 1)) (hr : M.2.2.2 = some ty) (hn : narrow ty (.int x) = .int x) (hQ : Q (Sum.inl (some (zI x))) w) : ab_GH hh g M d bc bs pc L [zI x] w Q := by
  intro Z p e R s m args below meth c mc ms X φ0 w0 φ H locs cells slots ls F
  obtain ⟨f1, f2, f3, f4, f5, f6, f7⟩ := F
  have hlocks : meth.locks = false := X.2.2.2.2.2.1
  exact vx_ret (W.widen (k := mc) (n := ms) (by omega) (by omega) (W.zret X.1 X.2.1 (X.2.2.2.2.1.trans hr) hn (fun t ht hW => ⟨some (zI x), φ, w, rfl, hQ, by rw [ht]; exact f2, f3, fun y hy => by cases hy; exact ab_okI⟩) f4 hd))
theorem ab_castW {E nm : String} (Z : ab_Z g) {s : State} (hW : g.2.1.WarmedH s.vm) (h : Cond.castable E nm ∈ lw_tbl) (args : Array Value) : (Cond.castable E nm).before args s = true := by
  obtain ⟨a0, h0⟩ := Z.2.1
  exact va_Nw.use rfl (va_Nw.warmC hW (va_Nw.of rfl (h0 _ h)))
/-- who takes a throw: the row, what it passes, its handler puts the exception by -/
def ab_ca (hh : List (Nat × Nat × Nat × Nat)) (g : ab_E) (M : ab_M) (d bc bs pc : Nat) (E : String) (w : ab_W) (Q : ab_O → ab_W → Prop) : Prop :=
  ∃ (pre : List ExceptionTableEntry) (x : ExceptionTableEntry) (suf : List ExceptionTableEntry) (nm : String) (i len : Nat), tableOf hh = pre ++ x :: suf ∧
    (∀ z ∈ pre, z.catchType ≠ 0 ∧ ∃ nm' : String, Cond.classLink M.1.cls z.catchType nm' ∈ lw_tbl ∧ va_Nc E nm' g.2.1) ∧ covers x pc = true ∧ x.catchType ≠ 0 ∧ Cond.classLink M.1.cls x.catchType nm ∈ lw_tbl ∧ Cond.castable E nm ∈ lw_tbl ∧ i < M.2.2.1 ∧
    ((∃ n : Fin 4, (n : Nat) = i ∧ decode M.2.1 x.handlerPc = .ok (.astore_n n, 1) ∧ len = 1) ∨ (decode M.2.1 x.handlerPc = .ok (.astore i, 2) ∧ len = 2)) ∧ ab_GH hh g M d bc bs (x.handlerPc + len) [] [] w Q
theorem ab_afterH {N : ab_M} {dy my sy : Nat} {As : List ab_V} {rest st0 : List ab_V} {Qy : ab_O → ab_W → Prop} {p : Program} {e : Env} {R : Room} {s : State} {m : MethodId} {args : Array Value} {below : List Frame} {meth : Method} {c : Code} {mc ms : Nat} (Z : ab_Z g) (X : ab_XH hh g M d mc ms p R s m meth c) {φ0 : Nat → Nat → Nat} {w0 : ab_W} {φ : Nat → Nat → Nat} {H : Heap} {locs : List Loc} {cells slots : Nat} {ls : Array Slot} (F : ab_F g M bc bs mc ms L st0 w φ0 w0 φ H locs cells slots ls)
    (hr : vx_Run p g.1 e R s m args below meth c H locs cells slots my sy (F0 m pc ls (st0.map (ab_vl φ))) (rest.map (ab_vl φ)) (ab_QQ g φ w Qy (As.map (ab_vl φ)).toArray) (ab_XX g φ w Qy) (fun q => g.2.1.heap.size ≤ q))
    (hb : my ≤ bc ∧ sy ≤ bs) (hs : ∀ x ∈ rest, x ∈ st0) (kk : ∀ (v : Option ab_V) (w' : ab_W), Qy (Sum.inl v) w' → ab_GH hh g M d (bc - my) (bs - sy) (pc + 3) L (v.toList ++ rest) w' Q) (kx : ∀ (E : String) (w' : ab_W), Qy (Sum.inr E) w' → ab_ca hh g M d (bc - my) (bs - sy) pc E w' Q) :
    W p g.1 e R s m args below meth c H locs cells slots (vx_MQ below (ab_QQ g φ0 w0 Q) (ab_XX g φ0 w0 Q) args s mc ms (fun q => g.2.1.heap.size ≤ q)) (F0 m pc ls (st0.map (ab_vl φ))) := by
  obtain ⟨f1, f2, f3, f4, f5, f6, f7⟩ := F
  intro T hT XT
  have hlocs : ∀ L2 : List Loc, (∀ q ∈ L2, g.2.1.heap.size ≤ q.base) → ∀ q ∈ locs ++ L2, g.2.1.heap.size ≤ q.base := fun L2 h q hq => (List.mem_append.mp hq).elim (f4 q) (h q)
  rcases hr T hT XT with ⟨v, st₀, t, T', L2, h0, X', hL2, e1, e2, ⟨v9, φ', w', ho, hq, hH, hext, hvok⟩, stp⟩ | ⟨q, st₀, t, T', L2, E, ce, h0, X', hL2, e1, e2, ⟨φ', w', hq, hH, hext⟩, hce, hcv, hcl, stp⟩
  · cases ho
    have hst : rest.map (ab_vl φ) = rest.map (ab_vl φ') := List.map_congr_left fun x hx => (ab_vl_ext hext (f7 x (hs x hx))).symm
    have hl' : lv_has ls M.2.2.1 (L.map (fun q => (q.1, ab_vl φ' q.2))) := by
      have : L.map (fun q => (q.1, ab_vl φ' q.2)) = L.map (fun q => (q.1, ab_vl φ q.2)) := List.map_congr_left fun x hx => by rw [ab_vl_ext hext (f6 x hx)]
      rw [this]; exact f5
    have K := kk v9 w' hq Z p e R s m args below meth c mc ms X φ0 w0 φ' T'.heap (locs ++ L2) (cells + my) (slots + sy) ls ⟨⟨by omega, by omega⟩, by rw [e1]; exact hH, f3.tr hext, hlocs L2 hL2, hl', fun x hx => ab_ok_ext hext (f6 x hx), fun x hx => by
      rcases List.mem_append.mp hx with h | h
      · cases v9 with
        | none => cases h
        | some y => rw [List.mem_singleton.mp h]; exact hvok y rfl
      · exact ab_ok_ext hext (f7 x (hs x h))⟩
    obtain ⟨t2, a1, b1⟩ := K T' rfl X'
    refine ⟨t2, stp t2 ?_, b1⟩
    have : (v9.toList ++ rest).map (ab_vl φ') = (v9.map (ab_vl φ')).toList ++ rest.map (ab_vl φ) := by
      rw [List.map_append, hst]
      cases v9 <;> rfl
    rw [this] at a1
    exact a1
  · have hW := X.2.2.2.2.2.2.1
    obtain ⟨pre, x, suf, nm, i, len, hsplit, hpass, hcov, h00, hlink, hcast, hi, hdec, KG⟩ := kx E w' hq
    have go : ∀ ls9 : Array Slot, lv_has ls9 M.2.2.1 ((i, Value.ref q) :: (L.map (fun q => (q.1, ab_vl φ q.2))).filter (fun q => !(q.1 == i) && !(q.1 + 1 == i && q.2.category == 2))) → W p g.1 e R s m args below meth c T'.heap (locs ++ L2) (cells + my) (slots + sy) (vx_MQ below (ab_QQ g φ0 w0 Q) (ab_XX g φ0 w0 Q) args s mc ms (fun q => g.2.1.heap.size ≤ q)) (F0 m (x.handlerPc + len) ls9 []) := fun ls9 h9 =>
      KG Z p e R s m args below meth c mc ms X φ0 w0 φ' T'.heap (locs ++ L2) (cells + my) (slots + sy) ls9 ⟨⟨by omega, by omega⟩, by rw [e1]; exact hH, f3.tr hext, hlocs L2 hL2, ⟨h9.1, h9.2.1, fun q hq => by cases hq⟩, fun x hx => (by cases hx), fun x hx => (by cases hx)⟩
    have K : vx_W p g.1 e R s m args below meth c T'.heap (locs ++ L2) (cells + my) (slots + sy) (vx_MQ below (ab_QQ g φ0 w0 Q) (ab_XX g φ0 w0 Q) args s mc ms (fun q => g.2.1.heap.size ≤ q)) (F0 m pc ls (rest.map (ab_vl φ))) q := by
      refine vx_catch (own := M.1.cls) (name := nm) X.2.2.2.1 pre x suf (X.2.2.2.2.2.2.2.1.trans hsplit) (fun z hz => Or.inr ?_) hcov h00 (ab_word Z hW hlink rfl args) (ab_castW Z hW hcast args) (by rw [e1]; exact hce) hcv hcl ?_
      · obtain ⟨z1, nm', z2, z3⟩ := hpass z hz
        exact ⟨z1, nm', ab_word Z hW z2 rfl args, va_Nc.moved hW.alike z3⟩
      · rcases hdec with ⟨k9, hk9, hd9, rfl⟩ | ⟨hd9, rfl⟩
        · exact lv_astore_n X.1 X.2.1 hd9 hk9 f5 hi rfl go
        · exact lv_astore X.1 X.2.1 hd9 f5 hi rfl go
    obtain ⟨t2, a1, b1⟩ := K T' rfl X'
    exact ⟨t2, stp.trans a1, b1⟩
theorem ab_callVH {N : ab_M} {idx n dy my sy k i : Nat} {C : String} {As rest : List ab_V} {Qy : ab_O → ab_W → Prop} (hl : ab_ml M.1.cls idx N n) (hin : Cond.instanceMethod N.1 ∈ lw_tbl) (hse : Cond.selects C N.1 N.1 ∈ lw_tbl) (hcl : (ab_cl[k]?).map (fun q => q.1) = some C) (hd : decode M.2.1 pc = .ok (.invokevirtual idx, 3)) (hst : As.reverse ++ zR k i :: rest = st) (hn : As.length = n)
    (hR : dy + 1 ≤ d ∧ 8 + (N.2.2.1 + 11) + 60 * dy ≤ 60 * d) (hb : my ≤ bc ∧ sy ≤ bs) (hz : ab_sz rest ≤ 8) (hC : ab_C g N dy my sy (zR k i :: As) w Qy)
    (kk : ∀ (v : Option ab_V) (w' : ab_W), Qy (Sum.inl v) w' → ab_GH hh g M d (bc - my) (bs - sy) (pc + 3) L (v.toList ++ rest) w' Q) (kx : ∀ (E : String) (w' : ab_W), Qy (Sum.inr E) w' → ab_ca hh g M d (bc - my) (bs - sy) pc E w' Q) : ab_GH hh g M d bc bs pc L st w Q := by
  intro Z p e R s m args below meth c mc ms X φ0 w0 φ H locs cells slots ls F
  have hW := X.2.2.2.2.2.2.1
  have hRf := X.2.2.2.2.2.2.2.2.2
  have hB : dy + 1 ≤ R.frames ∧ 8 + (N.2.2.1 + 11) + 60 * dy ≤ R.locals := ⟨by omega, by omega⟩
  subst hst
  have hi : i < w.2.2.2.1 k := F.2.2.2.2.2.2 _ (List.mem_append.mpr (Or.inr List.mem_cons_self)) k i rfl
  have hargs : ∀ v ∈ zR k i :: As, ab_ok w v := fun v hv => F.2.2.2.2.2.2 v (by
    rcases List.mem_cons.mp hv with rfl | h
    · exact List.mem_append.mpr (Or.inr List.mem_cons_self)
    · exact List.mem_append.mpr (Or.inl (List.mem_reverse.mpr h)))
  obtain ⟨q, hq, hqC⟩ := Option.map_eq_some_iff.mp hcl
  obtain ⟨cell, q1, q2, q3, -⟩ := (F.2.1.2.2.1 k i hi).1 q hq
  obtain ⟨-, hfc, -⟩ := (Z.2.2.1.moved hW.alike).1 k q hq
  have hF1 : cells + my ≤ R.cells ∧ slots + sy ≤ R.slots := ⟨by have := F.1.1; omega, by have := F.1.2; omega⟩
  have hrun := vx_runV (g := F0 m pc ls ((As.reverse ++ zR k i :: rest).map (ab_vl φ))) (As := As.map (ab_vl φ)) (rest := rest.map (ab_vl φ)) (b := φ k i) (Ts := []) (cells := cells) (slots := slots) (locs := locs) (H := H) (e := e) (below := below) (meth := meth)
    ⟨X.1, X.2.1, X.2.2.1, X.2.2.2.1, fun _ h => by cases h⟩ (hC Z hargs φ) ⟨ab_callB (R := R) (dy := dy) (mc := my) (ms := sy) Z hW hl hB, ab_word Z hW hin rfl args, ab_word Z hW hse rfl args⟩
    ⟨ab_blind, ⟨cell, q1, by rw [q3]; rfl, by rw [q2, ← hqC]; exact hfc⟩, fun U hU hUW => ⟨rfl, State.WarmedH.trans hW hUW, by rw [hU]; exact F.2.1⟩⟩ rfl (by rw [List.length_map]; exact hn) F.2.2.2.2.1.1
    (by show (As.reverse ++ zR k i :: rest).map (ab_vl φ) = _; rw [List.map_append, List.map_reverse]; rfl) (by show 2 * 0 + _ ≤ 8; rw [ab_catsum]; omega) hd hF1
  exact ab_afterH (As := zR k i :: As) (N := N) (dy := dy) Z X F hrun hb (fun x hx => List.mem_append.mpr (Or.inr (List.mem_cons_of_mem _ hx))) kk kx
/-- a method with handlers as a whole -/
def ab_CH (hh : List (Nat × Nat × Nat × Nat)) (g : ab_E) (M : ab_M) (d mc ms : Nat) (args : List ab_V) (w : ab_W) (Q : ab_O → ab_W → Prop) : Prop :=
  ab_Z g → (∀ v ∈ args, ab_ok w v) → ∀ φ : Nat → Nat → Nat, vx_Met g.1 M.1 [Cond.codeWith M.1 M.2.1 M.2.2.1 M.2.2.2 hh] (ab_rm d mc ms) (ab_Pc g φ w args) (ab_QQ g φ w Q) (ab_XX g φ w Q) mc ms (fun q => g.2.1.heap.size ≤ q)
theorem ab_enterH {args : List ab_V} {mc ms : Nat} {L0 : List (Nat × ab_V)} (hcw : Cond.codeWith M.1 M.2.1 M.2.2.1 M.2.2.2 hh ∈ lw_tbl) (hy : plainName M.1.cls = true) (hsz : ab_sz args ≤ M.2.2.1) (hL : ab_args 0 args = L0) (k : ab_GH hh g M d mc ms 0 L0 [] w Q) : ab_CH hh g M d mc ms args w Q := by
  intro Z hok φ
  refine vx_ofWH (cc := M.2.1) (maxL := M.2.2.1) (ret := M.2.2.2) hy rfl ?_
  intro p e s m a below meth c s₁ B hml hv
  obtain ⟨rfl, hW, hHR⟩ := hv
  have ht := vx_table (x := M.1) B (ab_word Z hW hcw rfl _)
  have hl := lv_entry (args.map (ab_vl φ)) (n := M.2.2.1) (by rw [ab_sl_len]; exact hsz)
  rw [lg_entry_eq]
  generalize (lg_sl (args.map (ab_vl φ)) ++ List.replicate (M.2.2.1 - (lg_sl (args.map (ab_vl φ))).length) Slot.unset).toArray = ls at hl ⊢
  rw [ab_args_map φ args 0, hL] at hl
  have hown : s.vm.findClass M.1.cls = some m.cls := findClass_of_methodNamed B.named
  exact k Z p e (ab_rm d mc ms) s m _ below meth c mc ms ⟨B.exec, B.bytes, hml, hown, B.returns, B.notSynchronized, hW, ht, (name_of_methodNamed B.named B.method).1, Nat.le_refl _, Nat.le_refl _, Nat.le_refl _, Nat.le_refl _, hHR.1, hHR.2.1⟩ φ w φ s.heap [] 0 0 ls ⟨⟨by omega, by omega⟩, hHR, ab_ext.rf, (fun q hq => by cases hq), hl, (fun q hq => by rw [← hL] at hq; exact ab_args_ok args 0 hok q hq), (fun v hv => by cases hv)⟩
def ab_mlH (hh : List (Nat × Nat × Nat × Nat)) (own : String) (idx : Nat) (N : ab_M) (n : Nat) : Prop := Cond.methodLink own idx N.1 ∈ lw_tbl ∧ Cond.codeWith N.1 N.2.1 N.2.2.1 N.2.2.2 hh ∈ lw_tbl ∧ Cond.initialized N.1.cls ∈ lw_tbl ∧ (N.1.cls ≠ "java/lang/invoke/MethodHandle" ∧ N.1.cls ≠ "java/lang/invoke/VarHandle") ∧ (parseMethodDescriptor N.1.desc).map (fun d => d.parameters.length) = some n
theorem ab_csw {N : ab_M} {idx n dy mc ms : Nat} {R : Room} {s : State} {args : Array Value} (Z : ab_Z g) (hW : g.2.1.WarmedH s.vm) (hl : ab_mlH hh M.1.cls idx N n) (hin : Cond.static N.1 ∈ lw_tbl) (hR : dy + 1 ≤ R.frames ∧ 8 + (N.2.2.1 + 11) + 60 * dy ≤ R.locals) : vx_CSW R s args M.1.cls idx N.1 N.2.1 N.2.2.1 N.2.2.2 hh [Cond.codeWith N.1 N.2.1 N.2.2.1 N.2.2.2 hh] (ab_rm dy mc ms) mc ms n := by
  obtain ⟨h1, h2, h3, h4, h5⟩ := hl
  refine ⟨⟨rfl, rfl, hR.1, hR.2, fun w hw a U hU => ?_, List.mem_singleton.mpr rfl⟩, ab_word Z hW h2 rfl args, ab_word Z hW h3 rfl args, h4, fun sig h => ?_, ab_word Z hW h1 rfl args, ab_word Z hW hin rfl args⟩
  · rw [List.mem_singleton.mp hw]
    exact ab_word Z (State.WarmedH.trans hW hU) h2 rfl a
  · rw [h] at h5
    exact (Option.some.inj h5).symm
theorem ab_callSH {N : ab_M} {idx n dy my sy : Nat} {As rest : List ab_V} {Qy : ab_O → ab_W → Prop} (hl : ab_mlH hh M.1.cls idx N n) (hin : Cond.static N.1 ∈ lw_tbl) (hd : decode M.2.1 pc = .ok (.invokestatic idx, 3)) (hst : As.reverse ++ rest = st) (hn : As.length = n)
    (hR : dy + 1 ≤ d ∧ 8 + (N.2.2.1 + 11) + 60 * dy ≤ 60 * d) (hb : my ≤ bc ∧ sy ≤ bs) (hz : ab_sz rest ≤ 8) (hC : ab_CH hh g N dy my sy As w Qy)
    (kk : ∀ (v : Option ab_V) (w' : ab_W), Qy (Sum.inl v) w' → ab_G g M d (bc - my) (bs - sy) (pc + 3) L (v.toList ++ rest) w' Q) (kx : ∀ (E : String) (w' : ab_W), Qy (Sum.inr E) w' → Q (Sum.inr E) w') : ab_G g M d bc bs pc L st w Q := by
  intro Z p e R s m args below meth c mc ms X φ0 w0 φ H locs cells slots ls F
  have hW := X.2.2.2.2.2.2.1
  have hRf := X.2.2.2.2.2.2.2.2.2
  have hB : dy + 1 ≤ R.frames ∧ 8 + (N.2.2.1 + 11) + 60 * dy ≤ R.locals := ⟨by omega, by omega⟩
  subst hst
  have hargs : ∀ v ∈ As, ab_ok w v := fun v hv => F.2.2.2.2.2.2 v (List.mem_append.mpr (Or.inl (List.mem_reverse.mpr hv)))
  have hF1 : cells + my ≤ R.cells ∧ slots + sy ≤ R.slots := ⟨by have := F.1.1; omega, by have := F.1.2; omega⟩
  have hrun := vx_runSX (args := args) (hh := hh) (g := F0 m pc ls ((As.reverse ++ rest).map (ab_vl φ))) (As := As.map (ab_vl φ)) (rest := rest.map (ab_vl φ)) (Ts := []) (cells := cells) (slots := slots) (locs := locs) (H := H) (e := e) (below := below) (meth := meth)
    ⟨X.1, X.2.1, X.2.2.1, X.2.2.2.1, fun _ h => by cases h⟩ (hC Z hargs φ) (ab_csw (R := R) (dy := dy) (mc := my) (ms := sy) Z hW hl hin hB)
    ⟨ab_blind, fun U hU hUW => ⟨rfl, State.WarmedH.trans hW hUW, by rw [hU]; exact F.2.1⟩⟩ rfl (by rw [List.length_map]; exact hn) F.2.2.2.2.1.1
    (by show (As.reverse ++ rest).map (ab_vl φ) = _; rw [List.map_append, List.map_reverse]) (by show 2 * 0 + _ ≤ 8; rw [ab_catsum]; omega) hd hF1
  exact ab_after (As := As) (N := N) (dy := dy) Z X F hrun hb (fun x hx => List.mem_append.mpr (Or.inr hx)) kk kx
end ABH
