/-! stores that name the new world; names for values; a smaller room -/
section GD3
variable {g : ab_E} {M : ab_M} {d bc bs pc : Nat} {L : List (Nat × ab_V)} {st : List ab_V} {v : gd_D} {Q : ab_O → gd_D → Prop}
theorem gd_nmI {x : Int32} (k : ∀ y, y = x → gd_G g M d bc bs pc L (zI y :: st) v Q) : gd_G g M d bc bs pc L (zI x :: st) v Q := k x rfl
theorem gd_nmJ {x : Int64} (k : ∀ y, y = x → gd_G g M d bc bs pc L (zJ y :: st) v Q) : gd_G g M d bc bs pc L (zJ x :: st) v Q := k x rfl
theorem gd_nmD {x : UInt64} (k : ∀ y, y = x → gd_G g M d bc bs pc L (zD y :: st) v Q) : gd_G g M d bc bs pc L (zD x :: st) v Q := k x rfl
theorem gd_nmR {n x : Nat} (k : ∀ y, y = x → gd_G g M d bc bs pc L (zR n y :: st) v Q) : gd_G g M d bc bs pc L (zR n x :: st) v Q := k x rfl
theorem gd_putIn {k i j idx : Nat} {x : Int32} (hf : ab_fl M.1.cls idx k j false) (ht : ab_ty k j = .int) (hro : ab_ro k = false) (hd : decode M.2.1 pc = .ok (.putfield idx, 3)) (kk : ∀ v2, v2 = gd_sI v k i j x → gd_G g M d bc bs (pc + 3) L st v2 Q) : gd_G g M d bc bs pc L (zI x :: zR k i :: st) v Q := gd_putI hf ht hro hd (kk _ rfl)
theorem gd_putJn {k i j idx : Nat} {x : Int64} (hf : ab_fl M.1.cls idx k j false) (ht : ab_ty k j = .long) (hro : ab_ro k = false) (hd : decode M.2.1 pc = .ok (.putfield idx, 3)) (kk : ∀ v2, v2 = gd_sJ v k i j x → gd_G g M d bc bs (pc + 3) L st v2 Q) : gd_G g M d bc bs pc L (zJ x :: zR k i :: st) v Q := gd_putJ hf ht hro hd (kk _ rfl)
theorem gd_putCn {h x idx : Nat} (hf : ab_fl M.1.cls idx 2 10 false) (hd : decode M.2.1 pc = .ok (.putfield idx, 3)) (kk : ∀ v2, v2 = gd_sC v h x → gd_G g M d bc bs (pc + 3) L st v2 Q) : gd_G g M d bc bs pc L (zR 15 x :: zR 2 h :: st) v Q := gd_putC hf hd (kk _ rfl)
theorem gd_iastoren {k i n : Nat} {x y : Int32} (hk : 12 ≤ k ∧ k < 65) (ht : ab_et k = .int) (hro : ab_ro k = false) (hd : decode M.2.1 pc = .ok (.iastore, 1)) (hn : (gd_e v).2.2.2.2 k i = n) (hin : vp_in x n) (kk : ∀ v2, v2 = gd_sI v k i x.toNatClampNeg y → gd_G g M d bc bs (pc + 1) L st v2 Q) : gd_G g M d bc bs pc L (zI y :: zI x :: zR k i :: st) v Q := gd_iastore hk ht hro hd hn hin (kk _ rfl)
theorem gd_lastoren {k i n : Nat} {x : Int32} {y : Int64} (hk : 12 ≤ k ∧ k < 65) (ht : ab_et k = .long) (hro : ab_ro k = false) (hd : decode M.2.1 pc = .ok (.lastore, 1)) (hn : (gd_e v).2.2.2.2 k i = n) (hin : vp_in x n) (kk : ∀ v2, v2 = gd_sJ v k i x.toNatClampNeg y → gd_G g M d bc bs (pc + 1) L st v2 Q) : gd_G g M d bc bs pc L (zJ y :: zI x :: zR k i :: st) v Q := gd_lastore hk ht hro hd hn hin (kk _ rfl)
theorem gd_bastoren {k i n : Nat} {x y : Int32} (hk : 12 ≤ k ∧ k < 65) (ht : ab_et k = .byte) (hro : ab_ro k = false) (hd : decode M.2.1 pc = .ok (.bastore, 1)) (hn : (gd_e v).2.2.2.2 k i = n) (hin : vp_in x n) (kk : ∀ v2, v2 = gd_sI v k i x.toNatClampNeg y.toInt8.toInt32 → gd_G g M d bc bs (pc + 1) L st v2 Q) : gd_G g M d bc bs pc L (zI y :: zI x :: zR k i :: st) v Q := gd_bastore hk ht hro hd hn hin (kk _ rfl)
theorem gd_zastoren {k i n : Nat} {x y : Int32} (hk : 12 ≤ k ∧ k < 65) (ht : ab_et k = .boolean) (hro : ab_ro k = false) (hd : decode M.2.1 pc = .ok (.bastore, 1)) (hn : (gd_e v).2.2.2.2 k i = n) (hin : vp_in x n) (kk : ∀ v2, v2 = gd_sI v k i x.toNatClampNeg (vp_nar .boolean y) → gd_G g M d bc bs (pc + 1) L st v2 Q) : gd_G g M d bc bs pc L (zI y :: zI x :: zR k i :: st) v Q := gd_zastore hk ht hro hd hn hin (kk _ rfl)
theorem ab_less {b' c' : Nat} {w : ab_W} {Q : ab_O → ab_W → Prop} (h1 : b' ≤ bc) (h2 : c' ≤ bs) (k : ab_G g M d b' c' pc L st w Q) : ab_G g M d bc bs pc L st w Q := by
  intro Z p e R s m args below meth c mc ms X φ0 w0 φ H locs cells slots ls F
  obtain ⟨f1, F⟩ := F
  exact k Z p e R s m args below meth c mc ms X φ0 w0 φ H locs cells slots ls ⟨⟨by omega, by omega⟩, F⟩
theorem gd_less {b' c' : Nat} (h1 : b' ≤ bc) (h2 : c' ≤ bs) (k : gd_G g M d b' c' pc L st v Q) : gd_G g M d bc bs pc L st v Q := ab_less h1 h2 k
end GD3
section GD4
variable {g : ab_E} {M : ab_M} {d : Nat} {Q : ab_O → ab_W → Prop} {w : ab_W}
/-- a body that may throw, of any method that no row of the natives replaces -/
theorem ab_ofWF {l : Launch} {y : MethodName} {ws ws' : List Cond} {rm : Room} {Pc : Array Value → State → Prop} {Qc : Array Value → State → Outcome → State → Prop} {XC : String → State → State → Prop} {mc ms : Nat} {free : Addr → Prop} {cc : ByteArray} {maxL : Nat} {ret : Option FieldType}
    (hy : plainFor y = true) (hw : ws = Cond.code y cc maxL ret :: ws')
    (body : ∀ p e s m args below meth c s₁, BodyLoose p l y (headSpec ws rm) cc maxL ret e s m args below meth c s₁ → c.maxLocals = maxL → (∀ x ∈ c.exceptionTable.toList, False) → Pc args s →
      W p l e (headSpec ws rm).room s m args below meth c s.heap [] 0 0 (vx_MQ below Qc XC args s mc ms free) (entryFrame m args maxL)) : vx_Met l y ws rm Pc Qc XC mc ms free := by
  refine MetFree.of_bodySF (code := cc) (maxLocals := maxL) (ret := ret) hy ?_ ?_
  · intro args s m h hn
    obtain ⟨meth, c, h1, h2, h3, h4, h5, h6, -, -⟩ := Cond.code_spec hn (atoms_spec (ws := ws) h _ (by rw [hw]; exact List.mem_cons_self))
    exact ⟨meth, c, h1, h2, h3, h4, h5, h6⟩
  · intro p e s m args below meth c s₁ B hml hP _
    have hh0 : s₁.heap = s.heap := by rw [B.state]; rfl
    have ht : ∀ x ∈ c.exceptionTable.toList, False := by
      obtain ⟨meth9, c9, h1, h2, -, -, -, -, h7, -⟩ := Cond.code_spec B.named (atoms_spec (ws := ws) B.pre _ (by rw [hw]; exact List.mem_cons_self))
      cases Option.some.inj (h1.symm.trans B.method)
      cases Option.some.inj (h2.symm.trans (Stand.of_body B).code)
      intro x hx
      rw [Array.isEmpty_iff.mp h7] at hx
      cases hx
    obtain ⟨t, a1, o, b1, b2, b3⟩ := body p e s m args below meth c s₁ B hml ht hP s₁ hh0 (Stand.of_body B)
    exact ⟨t, o, a1, b1, b2, b3⟩
theorem ab_enterF {args : List ab_V} {mc ms : Nat} {L0 : List (Nat × ab_V)} (hy : plainFor M.1 = true) (hsz : ab_sz args ≤ M.2.2.1) (hL : ab_args 0 args = L0) (k : ab_G g M d mc ms 0 L0 [] w Q) : ab_C g M d mc ms args w Q := by
  intro Z hok φ
  refine ab_ofWF (cc := M.2.1) (maxL := M.2.2.1) (ret := M.2.2.2) hy rfl ?_
  intro p e s m a below meth c s₁ B hml ht hv
  obtain ⟨rfl, hW, hHR⟩ := hv
  have hl := lv_entry (args.map (ab_vl φ)) (n := M.2.2.1) (by rw [ab_sl_len]; exact hsz)
  rw [lg_entry_eq]
  generalize (lg_sl (args.map (ab_vl φ)) ++ List.replicate (M.2.2.1 - (lg_sl (args.map (ab_vl φ))).length) Slot.unset).toArray = ls at hl ⊢
  rw [ab_args_map φ args 0, hL] at hl
  have hown : s.vm.findClass M.1.cls = some m.cls := findClass_of_methodNamed B.named
  exact k Z p e (ab_rm d mc ms) s m _ below meth c mc ms ⟨B.exec, B.bytes, hml, hown, B.returns, B.notSynchronized, hW, ht, (name_of_methodNamed B.named B.method).1, Nat.le_refl _, Nat.le_refl _, Nat.le_refl _, Nat.le_refl _, hHR.1, hHR.2.1⟩ φ w φ s.heap [] 0 0 ls ⟨⟨by omega, by omega⟩, hHR, ab_ext.rf, (fun q hq => by cases hq), hl, (fun q hq => by rw [← hL] at hq; exact ab_args_ok args 0 hok q hq), (fun v hv => by cases hv)⟩
theorem gd_enterF {v : gd_D} {Q : ab_O → gd_D → Prop} {args : List ab_V} {mc ms : Nat} {L0 : List (Nat × ab_V)} (hy : plainFor M.1 = true) (hsz : ab_sz args ≤ M.2.2.1) (hL : ab_args 0 args = L0) (k : gd_G g M d mc ms 0 L0 [] v Q) : gd_C g M d mc ms args v Q := ab_enterF hy hsz hL k
end GD4
