/-! throws; the JDK's own: texts, statics -/
theorem ab_HR.grow {g : ab_E} {φ : Nat → Nat → Nat} {w : ab_W} {H H' : Heap} (h : ab_HR g φ w H) (hz : H.size ≤ H'.size) (hq : ∀ q : Nat, q < H.size → H'[q]? = H[q]?) : ab_HR g φ w H' := by
  obtain ⟨a1, a2, a3, a4⟩ := h
  refine ⟨fun q hq' => by rw [hq q (by omega)]; exact a1 q hq', by omega, fun k i hi => ?_, a4⟩
  have hc := a3 k i hi
  refine ⟨fun q hc' => ?_, fun hk => ?_⟩
  · obtain ⟨cell, h1, h2⟩ := hc.1 q hc'
    exact ⟨cell, by rw [hq _ (Array.getElem?_eq_some_iff.mp h1).1]; exact h1, h2⟩
  · exact (hc.2 hk).kept (hq _ (hc.2 hk).lt)
theorem ab_wordF {g : ab_E} (Z : ab_Z g) {U : State} (hW : g.2.1.WarmedH U.vm) {w : Cond} (hm : w ∈ lw_tbl) (hf : (w.onTables && w.keepsFace) = true) (a : Array Value) : w.before a U = true := by
  obtain ⟨a0, h⟩ := Z.2.1
  simp only [Bool.and_eq_true] at hf
  have h1 : w.before a0 (g.2.1.setVm U.vm) = true := Cond.before_shiftedFace (State.Shifted.of_warmed hW) _ hf.2 (h _ hm)
  exact va_tabs (A := a0) (u := g.2.1.setVm U.vm) hf.1 rfl h1
/-- the start's heap is still there, seen from a method's own start -/
theorem ab_start {g : ab_E} {H : Heap} {p : Program} {l : Launch} {e : Env} {R : Room} {s : State} {m : MethodId} {args : Array Value} {below : List Frame} {meth : Method} {c : Code} {T : State} {locs : List Loc} {cells slots : Nat} (hT : T.heap = H) (XT : Stand p l e R s m args below meth c T locs cells slots) (hl : ∀ q ∈ locs, g.2.1.heap.size ≤ q.base) : va_S (ab_A g) s.heap H locs := by
  obtain ⟨h1, h2⟩ := vx_frame (U := T) (s := s) (locs := locs) XT.same
  rw [hT] at h1 h2
  exact ⟨h1, fun q hq hA => h2 q hq (fun z hz e => hA (by show g.2.1.heap.size ≤ q; rw [← e]; exact hl z hz)), hl⟩
section SP1
variable {g : ab_E} {M : ab_M} {d bc bs pc : Nat} {L : List (Nat × ab_V)} {st : List ab_V} {w : ab_W} {Q : ab_O → ab_W → Prop}
/-- throw new E() -/
theorem ab_throw {cls : String} {names : List String} {ik ic : Nat} (hcls : Bundle.fit cls = true) (hnames : ∀ n ∈ names, Bundle.fit n = true) (hk : Cond.classLink M.1.cls ik cls ∈ lw_tbl) (hini : Cond.initialized cls ∈ lw_tbl) (hat : ∀ x ∈ (vx_at0 M.1.cls ic cls names).filter goodWord, x ∈ lw_tbl) (hat2 : ∀ x ∈ (vx_at0 M.1.cls ic cls names).filter (fun x => !goodWord x), x ∈ lw_tbl ∧ (x.onTables && x.keepsFace) = true)
    (hgood : ∀ x ∈ Cond.classLink M.1.cls ik cls :: Cond.initialized cls :: vx_at0 M.1.cls ic cls names, vx_ot x = true) (d0 : decode M.2.1 pc = .ok (.new ik, 3)) (d3 : decode M.2.1 (pc + 3) = .ok (.dup, 1)) (d4 : decode M.2.1 (pc + 4) = .ok (.invokespecial ic, 3)) (d7 : decode M.2.1 (pc + 7) = .ok (.athrow, 1))
    (hd : names.length + 4 ≤ d) (hb : 1 ≤ bc ∧ 6 ≤ bs) (hQ : Q (Sum.inr cls) w) : ab_G g M d bc bs pc L [] w Q := by
  intro Z p e R s m args below meth c mc ms X φ0 w0 φ H locs cells slots ls F
  obtain ⟨f1, f2, f3, f4, f5, f6, f7⟩ := F
  intro T hT XT
  have hW := X.2.2.2.2.2.2.1
  have hS := ab_start (g := g) hT XT f4
  have hXr := X.2.2.2.2.2.2.2.2.2
  have hlocks : meth.locks = false := X.2.2.2.2.2.1
  have hlow : ∀ a : Nat, a < g.2.1.heap.size → ¬ ab_A g a → s.heap[a]? = g.2.1.heap[a]? := fun a ha _ => hXr.2.2.2.2.1 a ha
  have hwords : ∀ x ∈ vx_at0 M.1.cls ic cls names, x.before args s = true := vx_hat (fun x hx => by
    have hg := (List.mem_filter.mp hx).2
    exact ab_word Z hW (hat x hx) hg args) (B := (vx_at0 M.1.cls ic cls names).filter (fun x => !goodWord x)) (fun _ h => h) (fun x hx => ab_wordF Z hW (hat2 x hx).1 (hat2 x hx).2 args)
  have ZT := Z.2.2.2.2.2.2.2.2
  exact vx_throw0 (A := ab_A g) (XC := ab_XX g φ0 w0 Q) (Qc := ab_QQ g φ0 w0 Q) (free := fun q => g.2.1.heap.size ≤ q) X.1 X.2.1 Z.1 X.2.2.2.1 hcls hnames (ab_word Z hW hk rfl args) (ab_word Z hW hini rfl args) hwords hgood ((ZT.1.moved hW.alike).kept hlow) ((ZT.2.moved hW.alike).kept hlow) hS (f5.1.trans X.2.2.1.symm)
    d0 d3 d4 d7 (fun x hx => absurd hx (fun h => X.2.2.2.2.2.2.2.1 x h)) (by omega) (by show 0 + _ ≤ _; omega) (by omega) (by omega) hlocks
    (fun t _ ht1 ht2 => ⟨φ, w, hQ, f2.grow ht1 ht2, f3⟩) f4 (by omega) (by omega) T hT XT
theorem gd_throw {v : gd_D} {Q : ab_O → gd_D → Prop} {cls : String} {names : List String} {ik ic : Nat} (hcls : Bundle.fit cls = true) (hnames : ∀ n ∈ names, Bundle.fit n = true) (hk : Cond.classLink M.1.cls ik cls ∈ lw_tbl) (hini : Cond.initialized cls ∈ lw_tbl) (hat : ∀ x ∈ (vx_at0 M.1.cls ic cls names).filter goodWord, x ∈ lw_tbl) (hat2 : ∀ x ∈ (vx_at0 M.1.cls ic cls names).filter (fun x => !goodWord x), x ∈ lw_tbl ∧ (x.onTables && x.keepsFace) = true)
    (hgood : ∀ x ∈ Cond.classLink M.1.cls ik cls :: Cond.initialized cls :: vx_at0 M.1.cls ic cls names, vx_ot x = true) (d0 : decode M.2.1 pc = .ok (.new ik, 3)) (d3 : decode M.2.1 (pc + 3) = .ok (.dup, 1)) (d4 : decode M.2.1 (pc + 4) = .ok (.invokespecial ic, 3)) (d7 : decode M.2.1 (pc + 7) = .ok (.athrow, 1))
    (hd : names.length + 4 ≤ d) (hb : 1 ≤ bc ∧ 6 ≤ bs) (hQ : Q (Sum.inr cls) v) : gd_G g M d bc bs pc L [] v Q := ab_throw hcls hnames hk hini hat hat2 hgood d0 d3 d4 d7 hd hb ⟨v, rfl, hQ⟩
end SP1
