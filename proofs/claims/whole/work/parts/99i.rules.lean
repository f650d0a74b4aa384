/-! what a constructor does, over abstract worlds -/
/-- worlds that agree on the cells that are there -/
def ab_eqv (w w' : ab_W) : Prop := w'.2.2.2.1 = w.2.2.2.1 ∧ ∀ a b, b < w.2.2.2.1 a → w'.1 a b = w.1 a b ∧ w'.2.1 a b = w.2.1 a b ∧ w'.2.2.1 a b = w.2.2.1 a b ∧ w'.2.2.2.2 a b = w.2.2.2.2 a b
theorem ab_HR.re {g : ab_E} {φ : Nat → Nat → Nat} {w w' : ab_W} {H : Heap} (h : ab_HR g φ w H) (e : ab_eqv w w') : ab_HR g φ w' H := by
  obtain ⟨a1, a2, a3, a4, a5, a6, a7, a8⟩ := h
  obtain ⟨ec, ew⟩ := e
  refine ⟨a1, a2, fun k i hi => ?_, ?_, ?_, fun k i j x hi hx => ?_, a7, a8⟩
  · rw [ec] at hi
    obtain ⟨e1, e2, e3, e4⟩ := ew k i hi
    exact (a3 k i hi).to e1 e2 e3 e4 rfl
  · rw [ec]; exact a4
  · rw [ec]; exact a5
  · rw [ec] at hi ⊢
    rw [(ew k i hi).2.2.1] at hx
    exact a6 k i j x hi hx
theorem ab_ok.re {w w' : ab_W} (e : ab_eqv w w') {v : ab_V} (h : ab_ok w v) : ab_ok w' v := fun k i q => by rw [e.1]; exact h k i q
/-- what a constructor ends with -/
def ab_gives (w' : ab_W) : ab_O → ab_W → Prop := fun o u => o = Sum.inl none ∧ u = w'
def ab_mln (own : String) (idx : Nat) (N : ab_M) : Prop := ∃ host, Cond.methodLinkNest own idx N.1 host ∈ lw_tbl ∧ Cond.code N.1 N.2.1 N.2.2.1 N.2.2.2 ∈ lw_tbl ∧ Cond.initialized N.1.cls ∈ lw_tbl ∧ (N.1.cls ≠ "java/lang/invoke/MethodHandle" ∧ N.1.cls ≠ "java/lang/invoke/VarHandle") ∧ (parseMethodDescriptor N.1.desc).map (fun d => d.parameters.length) = some 0
section RI
variable {g : ab_E} {M : ab_M} {d bc bs pc : Nat} {L : List (Nat × ab_V)} {st : List ab_V} {w w' : ab_W} {Q : ab_O → ab_W → Prop}
theorem ab_G.re (e : ab_eqv w w') (k : ab_G g M d bc bs pc L st w' Q) : ab_G g M d bc bs pc L st w Q := by
  intro Z p e9 R s m args below meth c mc ms X φ0 w0 φ H locs cells slots ls F
  obtain ⟨f1, f2, f3, f4, f5, f6, f7⟩ := F
  exact k Z p e9 R s m args below meth c mc ms X φ0 w0 φ H locs cells slots ls ⟨f1, f2.re e, fun a b hb => by rw [e.1]; exact f3 a b hb, f4, f5, fun q hq => (f6 q hq).re e, fun v hv => (f7 v hv).re e⟩
theorem ab_aastore {k i n kr y : Nat} {C : String} {x : Int32} (hk : 12 ≤ k ∧ k < 65) (ht : ab_et k = .object C) (hr : ∀ j, ab_rt k j = kr) (hcl : (ab_cl[kr]?).map (fun q => q.1) = some C) (hro : ab_ro k = false) (hd : decode M.2.1 pc = .ok (.aastore, 1)) (hn : w.2.2.2.2 k i = n) (hin : vp_in x n) (kk : ab_G g M d bc bs (pc + 1) L st (ab_sR w k i x.toNatClampNeg (some y)) Q) : ab_G g M d bc bs pc L (zR kr y :: zI x :: zR k i :: st) w Q := by
  intro Z p e R s m args below meth c mc ms X φ0 w0 φ H locs cells slots ls F
  have hW := X.2.2.2.2.2.2.1
  have hi := F.2.2.2.2.2.2 _ (List.mem_cons_of_mem _ (List.mem_cons_of_mem _ List.mem_cons_self)) k i rfl
  have hy := F.2.2.2.2.2.2 _ List.mem_cons_self kr y rfl
  obtain ⟨h1, h2, h3⟩ := ab_arr Z hW F.2.1 hk hi hro
  obtain ⟨q, hq, hqC⟩ := Option.map_eq_some_iff.mp hcl
  obtain ⟨cellV, g1, g2, g3, -⟩ := (F.2.1.2.2.1 kr y hy).1 q hq
  have hcls := ((Z.2.2.1.moved hW.alike).1 kr q hq).2
  rw [ht] at h3
  obtain ⟨kA, comp, k1, k2, k3, -⟩ := h3
  have hcomp : comp = g.2.2.1 kr := Option.some.inj (k3.symm.trans (by rw [← hqC]; exact hcls.1))
  subst hcomp
  obtain ⟨kC, hkC, -⟩ := hcls.2
  refine W.aast X.1 X.2.1 h1 (fun q h => by cases h) (fun h => by cases h) k1 k2 rfl hkC ⟨fun q => hin (Or.inl q), by rw [arrV_size, hn]; exact ab_inlt hin⟩ g1 (fun q h => by rw [g3] at h; cases h) (by rw [g2]; exact hkC) (by rw [g2]; exact va_assign hcls) rfl rfl hd fun H' e1 e2 e3 => ?_
  refine ab_astG (w' := ab_sR w k i x.toNatClampNeg (some y)) Z X F ab_sub3 hk hi hro rfl (fun a b h => ⟨rfl, rfl, by funext z; exact if_neg (fun q => h ⟨q.1, q.2.1⟩)⟩) (fun j z hz => ?_) ?_ e2 e3 kk
  · by_cases e : j = x.toNatClampNeg
    · subst e
      simp [ab_sR] at hz
      rw [hr, ← hz]; exact hy
    · simp [ab_sR, e] at hz
      exact F.2.1.2.2.2.2.2.1 k i j z hi hz
  · rw [e1, arrV_store, ab_ev_obj ht, ab_ev_obj ht]
    congr 2
    funext z
    by_cases ez : z = x.toNatClampNeg
    · simp [updV, ab_sR, ez, va_rf, hr]
    · simp [updV, ab_sR, ez]
theorem ab_newq {k N idx : Nat} {n : Int32} {C : String} (hk : 12 ≤ k ∧ k < 65) (ht : ab_et k = .object C) (hl : Cond.classLink M.1.cls idx C ∈ lw_tbl) (harr : Cond.arrayOver (.object C) ∈ lw_tbl) (h15 : k ≠ 15) (hd : decode M.2.1 pc = .ok (.anewarray idx, 3)) (hn : ¬ n < 0) (hN : n.toNatClampNeg = N) (hN2 : N ≤ 10000) (hb : 1 ≤ bc ∧ N ≤ bs) (kk : ab_G g M d (bc - 1) (bs - N) (pc + 3) L (zR k (w.2.2.2.1 k) :: st) (ab_na w k N) Q) : ab_G g M d bc bs pc L (zI n :: st) w Q := by
  intro Z p e R s m args below meth c mc ms X φ0 w0 φ H locs cells slots ls F
  have F' := F
  obtain ⟨f1, f2, f3, f4, f5, f6, f7⟩ := F
  have hW := X.2.2.2.2.2.2.1
  have hao : va_AO C s := by
    obtain ⟨a0, h0⟩ := Z.2.1
    exact va_AO.moved hW.alike (va_AO.of (h0 _ harr))
  refine W.anew X.1 X.2.1 X.2.2.2.1 (ab_word Z hW hl rfl args) (va_AO.use hao) rfl hd rfl hn (by rw [hN]; omega) (by have := X.2.2.2.2.2.2.2.2.2.2.2.1; omega) (by rw [hN]; have := X.2.2.2.2.2.2.2.2.2.2.2.2.1; omega) fun cA kA comp c1 c2 c3 c4 => ?_
  rw [hN]
  generalize hH1 : H.push ({ cls := cA, slots := Array.replicate N .null, vm := .none } : Cell) = H1
  have z1 : H1.size = H.size + 1 := by rw [← hH1, Array.size_push]
  have e1 : H1[H.size]? = some (arrV cA N (fun _ => .null)) := by rw [← hH1, Array.getElem?_push_size, ← arrV_new]
  have o1 : ∀ q : Nat, q < H.size → H1[q]? = H[q]? := fun q hq => by rw [← hH1, Array.getElem?_push, if_neg (Nat.ne_of_lt hq)]
  have hRA := ((Z.2.2.1.moved hW.alike).2 k hk.1 hk.2).2 (fun q => by rw [q] at ht; cases (show FieldType.int = .object C from ht))
  rw [ht] at hRA
  obtain ⟨-, -, -, -, -, k4⟩ := hRA
  have hcA : cA = g.2.2.2.2.1 k := Option.some.inj (c1.symm.trans k4)
  have hcell : ab_cell g (ab_nf φ k (w.2.2.2.1 k) H.size) (ab_na w k N) H1 k (w.2.2.2.1 k) := by
    refine ⟨fun q hq => absurd (ab_cls k q hq).1 (by omega), fun _ => ab_ar.of ?_⟩
    rw [show ab_nf φ k (w.2.2.2.1 k) H.size k (w.2.2.2.1 k) = H.size from if_pos ⟨rfl, rfl⟩, e1, hcA, show (ab_na w k N).2.2.2.2 k (w.2.2.2.1 k) = N from if_pos ⟨rfl, rfl⟩]
    have zr : ∀ j, (ab_na w k N).2.2.1 k (w.2.2.2.1 k) j = none := fun j => if_pos ⟨rfl, rfl⟩
    rw [ab_ev_obj ht]
    simp only [zr]
    rfl
  obtain ⟨hR1, hx1⟩ := f2.new hk.2 (fun q => h15 q.1) rfl (w' := ab_na w k N) (fun a b hne => ⟨by funext z; exact if_neg hne, by funext z; exact if_neg hne, by funext z; exact if_neg hne, if_neg hne⟩) (fun j x hx => by
    rw [show (ab_na w k N).2.2.1 k (w.2.2.2.1 k) j = none from if_pos ⟨rfl, rfl⟩] at hx; cases hx) hcell z1 o1
  have hst : ∀ v ∈ st, ab_ok w v := fun v hv => f7 v (List.mem_cons_of_mem _ hv)
  have := kk Z p e R s m args below meth c mc ms X φ0 w0 _ H1 locs (cells + 1) (slots + N) ls (ab_F_new (N := N) hb F' hR1 hx1 (fun v hv => ?_))
  · rw [List.map_cons, ab_st_ext hx1 hst] at this
    have e5 : ab_vl (ab_nf φ k (w.2.2.2.1 k) H.size) (zR k (w.2.2.2.1 k)) = .ref H.size := by show Value.ref _ = _; rw [show ab_nf φ k (w.2.2.2.1 k) H.size k (w.2.2.2.1 k) = H.size from if_pos ⟨rfl, rfl⟩]
    rw [e5] at this
    exact this
  · rcases List.mem_cons.mp hv with h | h
    · refine Or.inr ?_
      rw [h]
      exact ab_okR (by show _ < if k = k then _ else _; rw [if_pos rfl]; omega)
    · exact Or.inl (List.mem_cons_of_mem _ h)
/-- a store into a final field, in a constructor of its class -/
theorem ab_putF {k i j idx kr x : Nat} (hf : ab_fl M.1.cls idx k j true) (ht : ab_isR (ab_ty k j) = true) (hr : ab_rt k j = kr) (hro : ab_ro k = false) (hdc : (ab_cl[k]?).map (fun q => (q.2.1 j).1) = some M.1.cls) (hnm : M.1.name = "<init>") (hd : decode M.2.1 pc = .ok (.putfield idx, 3)) (kk : ab_G g M d bc bs (pc + 3) L st (ab_sR w k i j (some x)) Q) : ab_G g M d bc bs pc L (zR kr x :: zR k i :: st) w Q := by
  intro Z p e R s m args below meth c mc ms X φ0 w0 φ H locs cells slots ls F
  obtain ⟨f1, f2, f3, f4, f5, f6, f7⟩ := F
  obtain ⟨q, hq, hj, hfin, hm⟩ := hf
  obtain ⟨hk12, hin, hty, hnm9⟩ := ab_cls k q hq
  have hi : i < w.2.2.2.1 k := f7 _ (List.mem_cons_of_mem _ List.mem_cons_self) k i rfl
  have hvok : x < w.2.2.2.1 kr := f7 _ List.mem_cons_self kr x rfl
  obtain ⟨cell, q1, q2, q3, q4⟩ := (f2.2.2.1 k i hi).1 q hq
  have hW := X.2.2.2.2.2.2.1
  have hK := Z.2.2.1.moved hW.alike
  obtain ⟨hS, hfc, kC, hkC, hkind⟩ := hK.1 k q hq
  obtain ⟨cf, kf, fi, f, hi9, hsl⟩ := hS j hj
  have hts : ∀ w ∈ u_ws q.1 q.2.1 q.2.2, w.before args s = true := fun x hx => by
    obtain ⟨a0, h0⟩ := Z.2.1
    exact word_at hW (hin x hx).2 (h0 x (hin x hx).1)
  have hKv : va_K (g.2.2.1, g.2.2.2.1) ab_cl [] s := ⟨fun a b hb => hK.1 a b hb, fun a b hb => by simp at hb⟩
  have hap := va_apart (own := M.1.cls) (ci := k) hts (fun _ h => h) (ab_ty k) hty hnm9 hKv (hc := by rw [hq])
  have hlay := hts _ (u_in_lay hj)
  unfold u_lay at hlay
  rw [if_pos hfin] at hlay
  have hst := (u_facts hfc hkC (u_lays hts (fun _ h => h) hj) hi9).1
  have hdecl : (q.2.1 j).1 = M.1.cls := by
    rw [hq] at hdc
    exact Option.some.inj hdc
  have hcf : m.cls = cf := by
    obtain ⟨_, _, c', _, _, _, -, -, hf', -, -, -, hown2, -⟩ := Cond.laysFinal_spec hlay
    have e1 : c' = cf := by have := hi9.symm.trans hf'; simp at this; exact this.1.symm
    rw [hdecl] at hown2
    rw [← e1]; exact Option.some.inj (X.2.2.2.1.symm.trans hown2)
  have hn : narrow (ab_ty k j) (ab_vl φ (zR kr x)) = ab_vl φ (zR kr x) := by revert ht; cases ab_ty k j <;> intro ht <;> first | rfl | cases ht
  have hfit : fits (ab_ty k j) (ab_vl φ (zR kr x)) = true := by revert ht; cases ab_ty k j <;> intro ht <;> first | rfl | cases ht
  have h6 := u_fits hfc hkC hkind (Or.inr hlay) hi9 (hty j hj) hn hfit
  refine W.putFinK X.1 X.2.1 X.2.2.2.1 (ab_word Z hW hm rfl args) hi9 hst hcf (X.2.2.2.2.2.2.2.2.1.trans hnm) (by rw [q2]; exact h6) q1 q3 (by rw [hsl]; exact k2_hasslot (q4 j hj)) rfl rfl hd fun H' e1 e2 e3 => ?_
  rw [hsl] at e1 ⊢
  have hb0 := f2.2.2.2.2.1 k i hi hro
  have hv : updV (ab_sv φ w k i) j (ab_vl φ (zR kr x)) = ab_sv φ (ab_sR w k i j (some x)) k i := by
    funext z
    by_cases e : z = j
    · subst e; rw [ab_sv_R ht]; simp [updV, ab_sR, ab_vl, va_rf, hr]
    · simp [updV, ab_sv, ab_sR, e]
  refine kk Z p e R s m args below meth c mc ms X φ0 w0 φ H' _ cells slots ls ⟨f1, f2.put (w' := ab_sR w k i j (some x)) (by omega) hi hro rfl (fun a b h => ⟨rfl, rfl, ?_⟩) ?_ ⟨fun q9 hq9 => ?_, fun h12 => absurd h12.1 (by omega)⟩ e2 e3, f3, ?_, f5, f6, fun x hx => f7 x (List.mem_cons_of_mem _ (List.mem_cons_of_mem _ hx))⟩
  · funext z; exact if_neg (fun q => h ⟨q.1, q.2.1⟩)
  · intro j' y hy
    by_cases e : j' = j
    · subst e
      simp [ab_sR] at hy
      rw [hr, ← hy]; exact hvok
    · simp [ab_sR, e] at hy
      exact f2.2.2.2.2.2.1 k i j' y hi hy
  · cases Option.some.inj (hq9.symm.trans hq)
    exact t_OB.to (V := updV (ab_sv φ w k i) j (ab_vl φ (zR kr x))) ⟨_, e1, q2, q3, t_set q4 hap hj (ab_vl φ (zR kr x))⟩ (fun a _ => by rw [hv])
  · intro x hx
    rcases List.mem_append.mp hx with h | h
    · exact f4 x h
    · rw [List.mem_singleton.mp h]; exact hb0
theorem ab_oi : Cond.instanceMethod Lib.objectInit ∈ lw_tbl ∧ Cond.code Lib.objectInit ⟨#[0xb1]⟩ 1 none ∈ lw_tbl := ⟨List.mem_of_getElem? (i := 146) (by decide +kernel), List.mem_of_getElem? (i := 147) (by decide +kernel)⟩
theorem ab_objInit {k i idx : Nat} (hl : Cond.methodLink M.1.cls idx Lib.objectInit ∈ lw_tbl) (hd : decode M.2.1 pc = .ok (.invokespecial idx, 3)) (hd1 : 1 ≤ d) (hz : ab_sz st ≤ 8) (kk : ab_G g M d bc bs (pc + 3) L st w Q) : ab_G g M d bc bs pc L (zR k i :: st) w Q := by
  intro Z p e R s m args below meth c mc ms X φ0 w0 φ H locs cells slots ls F
  have hW := X.2.2.2.2.2.2.1
  have hR1 := X.2.2.2.2.2.2.2.2.2.1
  have hR2 := X.2.2.2.2.2.2.2.2.2.2.1
  obtain ⟨f1, f2, f3, f4, f5, f6, f7⟩ := F
  refine W.objInit X.1 X.2.1 X.2.2.2.1 (ab_word Z hW hl rfl args) (ab_word Z hW ab_oi.1 rfl args) (ab_word Z hW ab_oi.2 rfl args) rfl (f5.1.trans X.2.2.1.symm) (a := φ k i) (rest := st.map (ab_vl φ)) rfl hd (by omega) (by show 2 * 0 + _ + 12 ≤ _; rw [ab_catsum]; omega) ?_
  exact kk Z p e R s m args below meth c mc ms X φ0 w0 φ H locs cells slots ls ⟨f1, f2, f3, f4, f5, f6, fun v hv => f7 v (List.mem_cons_of_mem _ hv)⟩
theorem ab_gives_k {W' : ab_W} {rest : List ab_V} {b1 b2 : Nat} (kk : ab_G g M d b1 b2 (pc + 3) L rest W' Q) : ∀ (v : Option ab_V) (u : ab_W), ab_gives W' (Sum.inl v) u → ab_G g M d b1 b2 (pc + 3) L (v.toList ++ rest) u Q := by
  intro v u h
  obtain ⟨h1, rfl⟩ := h
  cases h1
  exact kk
theorem ab_callI {y : MethodName} {cy : ByteArray} {ml idx dy my sy k i : Nat} {rest : List ab_V} {W' : ab_W} (hl : ab_ml M.1.cls idx (y, cy, ml, none) 0) (hnm : y.name = "<init>") (hin : Cond.instanceMethod y ∈ lw_tbl) (hd : decode M.2.1 pc = .ok (.invokespecial idx, 3))
    (hR : dy + 1 ≤ d ∧ 8 + (ml + 11) + 60 * dy ≤ 60 * d) (hb : my ≤ bc ∧ sy ≤ bs) (hz : ab_sz rest ≤ 8) (hC : ab_C g (y, cy, ml, none) dy my sy [zR k i] w (ab_gives W'))
    (kk : ab_G g M d (bc - my) (bs - sy) (pc + 3) L rest W' Q) : ab_G g M d bc bs pc L (zR k i :: rest) w Q := by
  intro Z p e R s m args below meth c mc ms X φ0 w0 φ H locs cells slots ls F
  have hW := X.2.2.2.2.2.2.1
  have hRf := X.2.2.2.2.2.2.2.2.2
  have hB : dy + 1 ≤ R.frames ∧ 8 + (ml + 11) + 60 * dy ≤ R.locals := ⟨by omega, by omega⟩
  have hi : ab_ok w (zR k i) := F.2.2.2.2.2.2 _ List.mem_cons_self
  have hargs : ∀ v ∈ [zR k i], ab_ok w v := fun v hv => by rw [List.mem_singleton.mp hv]; exact hi
  have hF1 : cells + my ≤ R.cells ∧ slots + sy ≤ R.slots := ⟨by have := F.1.1; omega, by have := F.1.2; omega⟩
  have hcb : CallB R s args M.1.cls idx y cy ml none [Cond.code y cy ml none] (ab_rm dy my sy) my sy 0 := ab_callB (N := (y, cy, ml, none)) (R := R) (dy := dy) (mc := my) (ms := sy) Z hW hl hB
  have hrun := vx_runI (g := F0 m pc ls ((zR k i :: rest).map (ab_vl φ))) (As := []) (rest := rest.map (ab_vl φ)) (b := φ k i) (Ts := []) (cells := cells) (slots := slots) (locs := locs) (H := H) (e := e) (below := below) (meth := meth)
    ⟨X.1, X.2.1, X.2.2.1, X.2.2.2.1, fun _ h => by cases h⟩ (hC Z hargs φ) ⟨hcb, hnm, ab_word Z hW hin rfl args⟩
    ⟨ab_blind, fun U hU hUW => ⟨rfl, State.WarmedH.trans hW hUW, by rw [hU]; exact F.2.1⟩⟩ rfl rfl F.2.2.2.2.1.1
    rfl (by show 2 * 0 + _ ≤ 8; rw [ab_catsum]; omega) hd hF1
  exact ab_after (As := [zR k i]) (N := (y, cy, ml, none)) (dy := dy) Z X F hrun hb (fun x hx => List.mem_cons_of_mem _ hx) (ab_gives_k kk) (fun E u h => by obtain ⟨h1, -⟩ := h; cases h1)
theorem ab_callIN {y : MethodName} {cy : ByteArray} {ml idx dy my sy k i : Nat} {rest : List ab_V} {W' : ab_W} (hl : ab_mln M.1.cls idx (y, cy, ml, none)) (hnm : y.name = "<init>") (hin : Cond.instanceMethod y ∈ lw_tbl) (hd : decode M.2.1 pc = .ok (.invokespecial idx, 3))
    (hR : dy + 1 ≤ d ∧ 8 + (ml + 11) + 60 * dy ≤ 60 * d) (hb : my ≤ bc ∧ sy ≤ bs) (hz : ab_sz rest ≤ 8) (hC : ab_C g (y, cy, ml, none) dy my sy [zR k i] w (ab_gives W'))
    (kk : ab_G g M d (bc - my) (bs - sy) (pc + 3) L rest W' Q) : ab_G g M d bc bs pc L (zR k i :: rest) w Q := by
  intro Z p e R s m args below meth c mc ms X φ0 w0 φ H locs cells slots ls F
  have hW := X.2.2.2.2.2.2.1
  have hRf := X.2.2.2.2.2.2.2.2.2
  have hB : dy + 1 ≤ R.frames ∧ 8 + (ml + 11) + 60 * dy ≤ R.locals := ⟨by omega, by omega⟩
  have hi : ab_ok w (zR k i) := F.2.2.2.2.2.2 _ List.mem_cons_self
  have hargs : ∀ v ∈ [zR k i], ab_ok w v := fun v hv => by rw [List.mem_singleton.mp hv]; exact hi
  have hF1 : cells + my ≤ R.cells ∧ slots + sy ≤ R.slots := ⟨by have := F.1.1; omega, by have := F.1.2; omega⟩
  obtain ⟨host, l1, l2, l3, l4, l5⟩ := hl
  have hnw : (Cond.methodLinkNest M.1.cls idx y host).before args s = true := by
    obtain ⟨a0, h0⟩ := Z.2.1
    exact va_Nw.use rfl (va_Nw.warmM hW (va_Nw.of rfl (h0 _ l1)))
  have hcb : va_CN R s args M.1.cls idx y host cy ml none [Cond.code y cy ml none] (ab_rm dy my sy) my sy 0 := by
    refine ⟨⟨rfl, rfl, hB.1, hB.2, fun w hw a U hU => ?_, List.mem_singleton.mpr rfl⟩, ab_word Z hW l2 rfl args, ab_word Z hW l3 rfl args, l4, fun sig h => ?_, hnw⟩
    · rw [List.mem_singleton.mp hw]
      exact ab_word Z (State.WarmedH.trans hW hU) l2 rfl a
    · have l5 : (parseMethodDescriptor y.desc).map (fun d => d.parameters.length) = some 0 := l5
      rw [h] at l5
      exact (Option.some.inj l5).symm
  have hrun := vx_runIN (g := F0 m pc ls ((zR k i :: rest).map (ab_vl φ))) (As := []) (rest := rest.map (ab_vl φ)) (b := φ k i) (Ts := []) (cells := cells) (slots := slots) (locs := locs) (H := H) (e := e) (below := below) (meth := meth)
    ⟨X.1, X.2.1, X.2.2.1, X.2.2.2.1, fun _ h => by cases h⟩ (hC Z hargs φ) ⟨hcb, hnm, ab_word Z hW hin rfl args⟩
    ⟨ab_blind, fun U hU hUW => ⟨rfl, State.WarmedH.trans hW hUW, by rw [hU]; exact F.2.1⟩⟩ rfl rfl F.2.2.2.2.1.1
    rfl (by show 2 * 0 + _ ≤ 8; rw [ab_catsum]; omega) hd hF1
  exact ab_after (As := [zR k i]) (N := (y, cy, ml, none)) (dy := dy) Z X F hrun hb (fun x hx => List.mem_cons_of_mem _ hx) (ab_gives_k kk) (fun E u h => by obtain ⟨h1, -⟩ := h; cases h1)
end RI
