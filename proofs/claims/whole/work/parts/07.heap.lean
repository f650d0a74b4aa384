/-! the heap's instructions over abstract worlds -/
def ab_sI (w : ab_W) (k i j : Nat) (x : Int32) : ab_W := (fun a b c => if a = k ∧ b = i ∧ c = j then x else w.1 a b c, w.2)
def ab_sJ (w : ab_W) (k i j : Nat) (x : Int64) : ab_W := (w.1, fun a b c => if a = k ∧ b = i ∧ c = j then x else w.2.1 a b c, w.2.2)
def ab_sR (w : ab_W) (k i j : Nat) (x : Option Nat) : ab_W := (w.1, w.2.1, fun a b c => if a = k ∧ b = i ∧ c = j then x else w.2.2.1 a b c, w.2.2.2)
theorem ab_cell.to {g : ab_E} {φ : Nat → Nat → Nat} {w w' : ab_W} {H H' : Heap} {k i : Nat} (h : ab_cell g φ w H k i) (h1 : w'.1 k i = w.1 k i) (h2 : w'.2.1 k i = w.2.1 k i) (h3 : w'.2.2.1 k i = w.2.2.1 k i) (h4 : w'.2.2.2.2 k i = w.2.2.2.2 k i) (hq : H'[φ k i]? = H[φ k i]?) : ab_cell g φ w' H' k i := by
  have e1 : ab_sv φ w' k i = ab_sv φ w k i := by funext j; unfold ab_sv; rw [h1, h2, h3]
  have e2 : ab_ev φ w' k i = ab_ev φ w k i := by unfold ab_ev; rw [h1, h2, h3]
  exact ⟨fun q hc => by rw [e1]; exact (h.1 q hc).kept hq, fun hk => by rw [e2, h4]; exact (h.2 hk).kept hq⟩
theorem ab_HR.put {g : ab_E} {φ : Nat → Nat → Nat} {w w' : ab_W} {H H' : Heap} {k i : Nat} (h : ab_HR g φ w H) (hk65 : k < 65) (hi : i < w.2.2.2.1 k) (hro : ab_ro k = false) (hc : w'.2.2.2 = w.2.2.2)
    (hw : ∀ a b, ¬ (a = k ∧ b = i) → w'.1 a b = w.1 a b ∧ w'.2.1 a b = w.2.1 a b ∧ w'.2.2.1 a b = w.2.2.1 a b) (hR : ∀ j x, w'.2.2.1 k i j = some x → x < w.2.2.2.1 (ab_rt k j))
    (hcell : ab_cell g φ w' H' k i) (hz : H'.size = H.size) (oq : ∀ q, q ≠ φ k i → H'[q]? = H[q]?) : ab_HR g φ w' H' := by
  obtain ⟨a1, a2, a3, a4, a5, a6, a7⟩ := h
  refine ⟨fun q hq => ?_, by rw [hz]; exact a2, fun a b hb => ?_, ?_, ?_, fun a b j x hb hx => ?_, a7⟩
  · rw [oq q (fun e => by have := a5 k i hi hro; omega)]; exact a1 q hq
  · rw [hc] at hb
    by_cases e : a = k ∧ b = i
    · rw [e.1, e.2]; exact hcell
    · obtain ⟨e1, e2, e3⟩ := hw a b e
      by_cases h65 : a < 65
      · exact (a3 a b hb).to e1 e2 e3 (by rw [hc]) (oq _ (fun z => e (a4 a b k i h65 hk65 hb hi hro z)))
      · exact ⟨fun q hq => absurd (ab_cls a q hq).1 (by omega), fun hk => absurd hk.2 h65⟩
  · intro a b a' b' h1 h2 hb hb'
    rw [hc] at hb hb'
    exact a4 a b a' b' h1 h2 hb hb'
  · intro a b hb
    rw [hc] at hb
    exact a5 a b hb
  · rw [hc] at hb ⊢
    by_cases e : a = k ∧ b = i
    · obtain ⟨rfl, rfl⟩ := e
      exact hR j x hx
    · rw [(hw a b e).2.2] at hx
      exact a6 a b j x hb hx
/-- a field's link: class own, entry idx, is field j of class k; final or not -/
def ab_fl (own : String) (idx k j : Nat) (fin : Bool) : Prop := ∃ q, ab_cl[k]? = some q ∧ j < q.2.2 ∧ (q.2.1 j).2.2.2 = fin ∧ Cond.fieldLink own idx (q.2.1 j).1 (q.2.1 j).2.1 (q.2.1 j).2.2.1 ∈ lw_tbl
section AB2
variable {g : ab_E} {M : ab_M} {d bc bs pc : Nat} {L : List (Nat × ab_V)} {st : List ab_V} {w : ab_W} {Q : ab_O → ab_W → Prop}
theorem ab_getG {k i j idx : Nat} {fin : Bool} {v : ab_V} (hf : ab_fl M.1.cls idx k j fin) (hd : decode M.2.1 pc = .ok (.getfield idx, 3)) (hv : ∀ φ, ab_sv φ w k i j = ab_vl φ v) (hok : i < w.2.2.2.1 k → (∀ j x, w.2.2.1 k i j = some x → x < w.2.2.2.1 (ab_rt k j)) → ab_ok w v)
    (kk : ab_G g M d bc bs (pc + 3) L (v :: st) w Q) : ab_G g M d bc bs pc L (zR k i :: st) w Q := by
  intro Z p e R s m args below meth c mc ms X φ0 w0 φ H locs cells slots ls F
  obtain ⟨f1, f2, f3, f4, f5, f6, f7⟩ := F
  obtain ⟨q, hq, hj, -, hm⟩ := hf
  obtain ⟨-, hin, -, -⟩ := ab_cls k q hq
  have hi : i < w.2.2.2.1 k := f7 _ List.mem_cons_self k i rfl
  obtain ⟨cell, q1, q2, q3, q4⟩ := (f2.2.2.1 k i hi).1 q hq
  have hW := X.2.2.2.2.2.2.1
  obtain ⟨hS, hfc, kC, hkC, hkind⟩ := (Z.2.2.1.moved hW.alike).1 k q hq
  obtain ⟨cf, kf, fi, f, hi9, hsl⟩ := hS j hj
  have hts : ∀ w ∈ u_ws q.1 q.2.1 q.2.2, w.before args s = true := fun x hx => by
    obtain ⟨a0, h0⟩ := Z.2.1
    exact word_at hW (hin x hx).2 (h0 x (hin x hx).1)
  refine W.getf (v := ab_vl φ v) X.1 X.2.1 X.2.2.2.1 (ab_word Z hW hm rfl args) hi9 (u_facts hfc hkC (u_lays hts (fun _ h => h) hj) hi9).1 q1 (by rw [q3]; exact fun h => by cases h) ?_ rfl rfl hd
    (kk Z p e R s m args below meth c mc ms X φ0 w0 φ H locs cells slots ls ⟨f1, f2, f3, f4, f5, f6, ab_p1 (hok hi (fun j x => f2.2.2.2.2.2.1 k i j x hi)) f6 f7⟩)
  rw [hsl, q4 j hj, hv φ]
theorem ab_getI {k i j idx : Nat} {fin : Bool} (hf : ab_fl M.1.cls idx k j fin) (ht : ab_ty k j = .int) (hd : decode M.2.1 pc = .ok (.getfield idx, 3)) (kk : ab_G g M d bc bs (pc + 3) L (zI (w.1 k i j) :: st) w Q) : ab_G g M d bc bs pc L (zR k i :: st) w Q :=
  ab_getG hf hd (fun φ => by unfold ab_sv; rw [ht]; rfl) (fun _ _ => ab_okI) kk
theorem ab_getJ {k i j idx : Nat} {fin : Bool} (hf : ab_fl M.1.cls idx k j fin) (ht : ab_ty k j = .long) (hd : decode M.2.1 pc = .ok (.getfield idx, 3)) (kk : ab_G g M d bc bs (pc + 3) L (zJ (w.2.1 k i j) :: st) w Q) : ab_G g M d bc bs pc L (zR k i :: st) w Q :=
  ab_getG hf hd (fun φ => by unfold ab_sv; rw [ht]; rfl) (fun _ _ => ab_okJ) kk
def ab_isR (t : FieldType) : Bool := match t with
  | .object _ => true
  | .array _ => true
  | _ => false
theorem ab_sv_R {φ : Nat → Nat → Nat} {w : ab_W} {k i j : Nat} (ht : ab_isR (ab_ty k j) = true) : ab_sv φ w k i j = va_rf ((w.2.2.1 k i j).map (φ (ab_rt k j))) := by
  unfold ab_sv
  revert ht
  cases ab_ty k j <;> intro ht <;> first | rfl | cases ht
theorem ab_getR {k i j idx x kr : Nat} {fin : Bool} (hf : ab_fl M.1.cls idx k j fin) (ht : ab_isR (ab_ty k j) = true) (hr : ab_rt k j = kr) (hd : decode M.2.1 pc = .ok (.getfield idx, 3)) (hx : w.2.2.1 k i j = some x) (kk : ab_G g M d bc bs (pc + 3) L (zR kr x :: st) w Q) : ab_G g M d bc bs pc L (zR k i :: st) w Q :=
  ab_getG hf hd (fun φ => by rw [ab_sv_R ht, hx, hr]; rfl) (fun _ h => ab_okR (by rw [← hr]; exact h j x hx)) kk
/-- a store into a field that isn't final -/
theorem ab_putG {k i j idx : Nat} {v : ab_V} {w' : ab_W} (hf : ab_fl M.1.cls idx k j false) (hro : ab_ro k = false) (hn : ∀ φ, narrow (ab_ty k j) (ab_vl φ v) = ab_vl φ v) (hfit : ∀ φ, fits (ab_ty k j) (ab_vl φ v) = true) (hd : decode M.2.1 pc = .ok (.putfield idx, 3)) (hc : w'.2.2.2 = w.2.2.2)
    (hw : ∀ a b, ¬ (a = k ∧ b = i) → w'.1 a b = w.1 a b ∧ w'.2.1 a b = w.2.1 a b ∧ w'.2.2.1 a b = w.2.2.1 a b) (hv : ∀ φ, updV (ab_sv φ w k i) j (ab_vl φ v) = ab_sv φ w' k i)
    (hR : ab_ok w v → ∀ j' x, w'.2.2.1 k i j' = some x → w.2.2.1 k i j' = some x ∨ x < w.2.2.2.1 (ab_rt k j'))
    (kk : ab_G g M d bc bs (pc + 3) L st w' Q) : ab_G g M d bc bs pc L (v :: zR k i :: st) w Q := by
  intro Z p e R s m args below meth c mc ms X φ0 w0 φ H locs cells slots ls F
  obtain ⟨f1, f2, f3, f4, f5, f6, f7⟩ := F
  obtain ⟨q, hq, hj, hfin, hm⟩ := hf
  obtain ⟨hk12, hin, hty, hnm⟩ := ab_cls k q hq
  have hi : i < w.2.2.2.1 k := f7 _ (List.mem_cons_of_mem _ List.mem_cons_self) k i rfl
  have hvok : ab_ok w v := f7 _ List.mem_cons_self
  obtain ⟨cell, q1, q2, q3, q4⟩ := (f2.2.2.1 k i hi).1 q hq
  have hW := X.2.2.2.2.2.2.1
  have hK := Z.2.2.1.moved hW.alike
  obtain ⟨hS, hfc, kC, hkC, hkind⟩ := hK.1 k q hq
  obtain ⟨cf, kf, fi, f, hi9, hsl⟩ := hS j hj
  have hts : ∀ w ∈ u_ws q.1 q.2.1 q.2.2, w.before args s = true := fun x hx => by
    obtain ⟨a0, h0⟩ := Z.2.1
    exact word_at hW (hin x hx).2 (h0 x (hin x hx).1)
  have hKv : va_K (g.2.2.1, g.2.2.2.1) ab_cl [] s := ⟨fun a b hb => hK.1 a b hb, fun a b hb => by simp at hb⟩
  have hap := va_apart (own := M.1.cls) (ci := k) hts (fun _ h => h) (ab_ty k) hty hnm hKv (hc := by rw [hq])
  have hlay := hts _ (u_in_lay hj)
  unfold u_lay at hlay
  rw [if_neg (by rw [hfin]; decide)] at hlay
  have hst := (u_facts hfc hkC (u_lays hts (fun _ h => h) hj) hi9).1
  have h6 := u_store hfc hkC hkind hlay hi9 (hty j hj) (hn φ) (hfit φ)
  have okc : ∀ v, ab_ok w v → ab_ok w' v := fun v h a b e => by rw [hc]; exact h a b e
  refine W.putK X.1 X.2.1 (f := f) ⟨X.2.2.2.1, ab_word Z hW hm rfl args, ⟨_, _, _, hi9⟩, hst⟩ (by rw [q2]; exact h6) q1 q3 (by rw [hsl]; exact k2_hasslot (q4 j hj)) rfl rfl hd fun H' e1 e2 e3 => ?_
  rw [hsl] at e1 ⊢
  have hb0 := f2.2.2.2.2.1 k i hi hro
  refine kk Z p e R s m args below meth c mc ms X φ0 w0 φ H' _ cells slots ls ⟨f1, f2.put (by omega) hi hro hc hw ?_ ⟨fun q9 hq9 => ?_, fun h12 => absurd h12.1 (by omega)⟩ e2 e3, fun a b hb => ?_, ?_, f5, fun x hx => okc _ (f6 x hx), fun x hx => okc _ (f7 x (List.mem_cons_of_mem _ (List.mem_cons_of_mem _ hx)))⟩
  · intro j' x hx
    rcases hR hvok j' x hx with h | h
    · exact f2.2.2.2.2.2.1 k i j' x hi h
    · exact h
  · cases Option.some.inj (hq9.symm.trans hq)
    exact t_OB.to (V := updV (ab_sv φ w k i) j (ab_vl φ v)) ⟨_, e1, q2, q3, t_set q4 hap hj (ab_vl φ v)⟩ (fun a _ => by rw [hv φ])
  · rw [hc]; exact f3 a b hb
  · intro x hx
    rcases List.mem_append.mp hx with h | h
    · exact f4 x h
    · rw [List.mem_singleton.mp h]; exact hb0
theorem ab_putI {k i j idx : Nat} {x : Int32} (hf : ab_fl M.1.cls idx k j false) (ht : ab_ty k j = .int) (hro : ab_ro k = false) (hd : decode M.2.1 pc = .ok (.putfield idx, 3)) (kk : ab_G g M d bc bs (pc + 3) L st (ab_sI w k i j x) Q) : ab_G g M d bc bs pc L (zI x :: zR k i :: st) w Q := by
  refine ab_putG (w' := ab_sI w k i j x) hf hro (fun φ => by rw [ht]; rfl) (fun φ => by rw [ht]; rfl) hd rfl (fun a b h => ⟨?_, rfl, rfl⟩) (fun φ => ?_) (fun _ _ _ h => Or.inl h) kk
  · funext z; exact if_neg (fun q => h ⟨q.1, q.2.1⟩)
  · funext z
    by_cases e : z = j
    · subst e; simp [updV, ab_sv, ht, ab_sI, ab_vl]
    · simp [updV, ab_sv, ab_sI, e]
theorem ab_putJ {k i j idx : Nat} {x : Int64} (hf : ab_fl M.1.cls idx k j false) (ht : ab_ty k j = .long) (hro : ab_ro k = false) (hd : decode M.2.1 pc = .ok (.putfield idx, 3)) (kk : ab_G g M d bc bs (pc + 3) L st (ab_sJ w k i j x) Q) : ab_G g M d bc bs pc L (zJ x :: zR k i :: st) w Q := by
  refine ab_putG (w' := ab_sJ w k i j x) hf hro (fun φ => by rw [ht]; rfl) (fun φ => by rw [ht]; rfl) hd rfl (fun a b h => ⟨rfl, ?_, rfl⟩) (fun φ => ?_) (fun _ _ _ h => Or.inl h) kk
  · funext z; exact if_neg (fun q => h ⟨q.1, q.2.1⟩)
  · funext z
    by_cases e : z = j
    · subst e; simp [updV, ab_sv, ht, ab_sJ, ab_vl]
    · simp [updV, ab_sv, ab_sJ, e]
theorem ab_putR {k i j idx kr x : Nat} (hf : ab_fl M.1.cls idx k j false) (ht : ab_isR (ab_ty k j) = true) (hr : ab_rt k j = kr) (hro : ab_ro k = false) (hd : decode M.2.1 pc = .ok (.putfield idx, 3)) (kk : ab_G g M d bc bs (pc + 3) L st (ab_sR w k i j (some x)) Q) : ab_G g M d bc bs pc L (zR kr x :: zR k i :: st) w Q := by
  refine ab_putG (w' := ab_sR w k i j (some x)) hf hro (fun φ => ?_) (fun φ => ?_) hd rfl (fun a b h => ⟨rfl, rfl, ?_⟩) (fun φ => ?_) (fun hok j' y h => ?_) kk
  · revert ht; cases ab_ty k j <;> intro ht <;> first | rfl | cases ht
  · revert ht; cases ab_ty k j <;> intro ht <;> first | rfl | cases ht
  · funext z; exact if_neg (fun q => h ⟨q.1, q.2.1⟩)
  · funext z
    by_cases e : z = j
    · subst e; rw [ab_sv_R ht]; simp [updV, ab_sR, ab_vl, va_rf, hr]
    · simp [updV, ab_sv, ab_sR, e]
  · by_cases e : j' = j
    · subst e
      simp [ab_sR] at h
      rw [hr, ← h]; exact Or.inr (hok kr x rfl)
    · simp [ab_sR, e] at h; exact Or.inl h
end AB2
section AB3
variable {g : ab_E} {M : ab_M} {d bc bs pc : Nat} {L : List (Nat × ab_V)} {st : List ab_V} {w : ab_W} {Q : ab_O → ab_W → Prop}
theorem ab_ev_long {φ : Nat → Nat → Nat} {w : ab_W} {k i : Nat} (ht : ab_et k = .long) : ab_ev φ w k i = fun j => .long (w.2.1 k i j) := by unfold ab_ev; rw [ht]
theorem ab_ev_int {φ : Nat → Nat → Nat} {w : ab_W} {k i : Nat} (ht : ab_et k = .int ∨ ab_et k = .byte ∨ ab_et k = .boolean) : ab_ev φ w k i = fun j => .int (w.1 k i j) := by
  unfold ab_ev
  rcases ht with ht | ht | ht <;> rw [ht]
theorem ab_ev_obj {φ : Nat → Nat → Nat} {w : ab_W} {k i : Nat} {C : String} (ht : ab_et k = .object C) : ab_ev φ w k i = fun j => va_rf ((w.2.2.1 k i j).map (φ (ab_rt k j))) := by unfold ab_ev; rw [ht]
/-- the array under a reference -/
theorem ab_arr {g : ab_E} (Z : ab_Z g) {s : State} (hW : g.2.1.WarmedH s.vm) {φ : Nat → Nat → Nat} {w : ab_W} {H : Heap} {k i : Nat} (h : ab_HR g φ w H) (hk : 12 ≤ k ∧ k < 65) (hi : i < w.2.2.2.1 k) (hro : ab_ro k = false) : H[φ k i]? = some (arrV (g.2.2.2.2.1 k) (w.2.2.2.2 k i) (ab_ev φ w k i)) ∧ (∀ n z, s.isArrayOf (arrV (g.2.2.2.2.1 k) n z) (ab_et k)) ∧ va_RA s (g.2.2.2.2.1 k) (ab_et k) := by
  have h2 := ((h.2.2.1 k i hi).2 hk).eq hro
  obtain ⟨h3, h4⟩ := (Z.2.2.1.moved hW.alike).2 k hk.1 hk.2
  exact ⟨h2, h3, h4 (fun q => by rw [q] at hro; cases hro)⟩
/-- .. to be read alone -/
theorem ab_arrL {g : ab_E} (Z : ab_Z g) {s : State} (hW : g.2.1.WarmedH s.vm) {φ : Nat → Nat → Nat} {w : ab_W} {H : Heap} {k i : Nat} (h : ab_HR g φ w H) (hk : 12 ≤ k ∧ k < 65) (hi : i < w.2.2.2.1 k) : ∃ cell : Cell, H[φ k i]? = some cell ∧ (w.2.2.2.2 k i ≤ cell.slots.size ∧ cell.slots.size.toInt32 = Int32.ofNat (w.2.2.2.2 k i) ∧ ∀ j : Nat, j < w.2.2.2.2 k i → cell.slots[j]? = some (ab_ev φ w k i j)) ∧ s.isArrayOf cell (ab_et k) ∧ cell.vm ≠ .unknown := by
  obtain ⟨cell, h1, h2, h3, h4, h5, -⟩ := (h.2.2.1 k i hi).2 hk
  obtain ⟨hA, -⟩ := (Z.2.2.1.moved hW.alike).2 k hk.1 hk.2
  obtain ⟨-, q⟩ := hA 0 (fun _ => .null)
  refine ⟨cell, h1, h3, ⟨h5, ?_⟩, h4⟩
  rw [h2]
  exact q
theorem ab_inb {cI : ClassId} {N : Nat} {f : Nat → Value} {x : Int32} (h : vp_in x N) : ¬ (x < 0 ∨ (arrV cI N f).slots.size ≤ x.toNatClampNeg) := by rw [arrV_size]; exact h
theorem ab_inl {N M : Nat} {x : Int32} (hl : N ≤ M) (h : vp_in x N) : ¬ (x < 0 ∨ M ≤ x.toNatClampNeg) := fun q => q.elim (fun q => h (Or.inl q)) (fun q => h (Or.inr (Nat.le_trans hl q)))
theorem ab_inlt {N : Nat} {x : Int32} (h : vp_in x N) : x.toNatClampNeg < N := Nat.not_le.mp fun q => h (Or.inr q)
theorem ab_iaload {k i n : Nat} {x : Int32} (hk : 12 ≤ k ∧ k < 65) (ht : ab_et k = .int) (hd : decode M.2.1 pc = .ok (.iaload, 1)) (hn : w.2.2.2.2 k i = n) (hin : vp_in x n) (kk : ab_G g M d bc bs (pc + 1) L (zI (w.1 k i x.toNatClampNeg) :: st) w Q) : ab_G g M d bc bs pc L (zI x :: zR k i :: st) w Q := by
  intro Z p e R s m args below meth c mc ms X φ0 w0 φ H locs cells slots ls F
  obtain ⟨f1, f2, f3, f4, f5, f6, f7⟩ := F
  obtain ⟨cell, h1, hs, h2, h3⟩ := ab_arrL Z X.2.2.2.2.2.2.1 f2 hk (f7 _ (List.mem_cons_of_mem _ List.mem_cons_self) k i rfl)
  rw [hn, ab_ev_int (Or.inl ht)] at hs
  rw [ht] at h2
  exact W.iald (v := .int (w.1 k i x.toNatClampNeg)) X.1 X.2.1 h1 h2 h3 (ab_inl hs.1 hin) (hs.2.2 _ (ab_inlt hin)) rfl rfl hd (kk Z p e R s m args below meth c mc ms X φ0 w0 φ H locs cells slots ls ⟨f1, f2, f3, f4, f5, f6, ab_p2 ab_okI f6 f7⟩)
theorem ab_laload {k i n : Nat} {x : Int32} (hk : 12 ≤ k ∧ k < 65) (ht : ab_et k = .long) (hd : decode M.2.1 pc = .ok (.laload, 1)) (hn : w.2.2.2.2 k i = n) (hin : vp_in x n) (kk : ab_G g M d bc bs (pc + 1) L (zJ (w.2.1 k i x.toNatClampNeg) :: st) w Q) : ab_G g M d bc bs pc L (zI x :: zR k i :: st) w Q := by
  intro Z p e R s m args below meth c mc ms X φ0 w0 φ H locs cells slots ls F
  obtain ⟨f1, f2, f3, f4, f5, f6, f7⟩ := F
  obtain ⟨cell, h1, hs, h2, h3⟩ := ab_arrL Z X.2.2.2.2.2.2.1 f2 hk (f7 _ (List.mem_cons_of_mem _ List.mem_cons_self) k i rfl)
  rw [hn, ab_ev_long ht] at hs
  rw [ht] at h2
  exact W.lald (v := .long (w.2.1 k i x.toNatClampNeg)) X.1 X.2.1 h1 h2 h3 (ab_inl hs.1 hin) (hs.2.2 _ (ab_inlt hin)) rfl rfl hd (kk Z p e R s m args below meth c mc ms X φ0 w0 φ H locs cells slots ls ⟨f1, f2, f3, f4, f5, f6, ab_p2 ab_okJ f6 f7⟩)
theorem ab_baload {k i n : Nat} {x : Int32} (hk : 12 ≤ k ∧ k < 65) (ht : ab_et k = .byte) (hd : decode M.2.1 pc = .ok (.baload, 1)) (hn : w.2.2.2.2 k i = n) (hin : vp_in x n) (kk : ab_G g M d bc bs (pc + 1) L (zI (w.1 k i x.toNatClampNeg) :: st) w Q) : ab_G g M d bc bs pc L (zI x :: zR k i :: st) w Q := by
  intro Z p e R s m args below meth c mc ms X φ0 w0 φ H locs cells slots ls F
  obtain ⟨f1, f2, f3, f4, f5, f6, f7⟩ := F
  obtain ⟨cell, h1, hs, h2, h3⟩ := ab_arrL Z X.2.2.2.2.2.2.1 f2 hk (f7 _ (List.mem_cons_of_mem _ List.mem_cons_self) k i rfl)
  rw [hn, ab_ev_int (Or.inr (Or.inl ht))] at hs
  rw [ht] at h2
  exact W.bald (v := .int (w.1 k i x.toNatClampNeg)) X.1 X.2.1 h1 h2 h3 (ab_inl hs.1 hin) (hs.2.2 _ (ab_inlt hin)) rfl rfl hd (kk Z p e R s m args below meth c mc ms X φ0 w0 φ H locs cells slots ls ⟨f1, f2, f3, f4, f5, f6, ab_p2 ab_okI f6 f7⟩)
theorem ab_zaload {k i n : Nat} {x : Int32} (hk : 12 ≤ k ∧ k < 65) (ht : ab_et k = .boolean) (hd : decode M.2.1 pc = .ok (.baload, 1)) (hn : w.2.2.2.2 k i = n) (hin : vp_in x n) (kk : ab_G g M d bc bs (pc + 1) L (zI (w.1 k i x.toNatClampNeg) :: st) w Q) : ab_G g M d bc bs pc L (zI x :: zR k i :: st) w Q := by
  intro Z p e R s m args below meth c mc ms X φ0 w0 φ H locs cells slots ls F
  obtain ⟨f1, f2, f3, f4, f5, f6, f7⟩ := F
  obtain ⟨cell, h1, hs, h2, h3⟩ := ab_arrL Z X.2.2.2.2.2.2.1 f2 hk (f7 _ (List.mem_cons_of_mem _ List.mem_cons_self) k i rfl)
  rw [hn, ab_ev_int (Or.inr (Or.inr ht))] at hs
  rw [ht] at h2
  exact W.zald (v := .int (w.1 k i x.toNatClampNeg)) X.1 X.2.1 h1 h2 h3 (ab_inl hs.1 hin) (hs.2.2 _ (ab_inlt hin)) rfl rfl hd (kk Z p e R s m args below meth c mc ms X φ0 w0 φ H locs cells slots ls ⟨f1, f2, f3, f4, f5, f6, ab_p2 ab_okI f6 f7⟩)
theorem ab_aaload {k i n kr y : Nat} {C : String} {x : Int32} (hk : 12 ≤ k ∧ k < 65) (ht : ab_et k = .object C) (hr : ab_rt k x.toNatClampNeg = kr) (hd : decode M.2.1 pc = .ok (.aaload, 1)) (hn : w.2.2.2.2 k i = n) (hin : vp_in x n) (hy : w.2.2.1 k i x.toNatClampNeg = some y) (kk : ab_G g M d bc bs (pc + 1) L (zR kr y :: st) w Q) : ab_G g M d bc bs pc L (zI x :: zR k i :: st) w Q := by
  intro Z p e R s m args below meth c mc ms X φ0 w0 φ H locs cells slots ls F
  obtain ⟨f1, f2, f3, f4, f5, f6, f7⟩ := F
  have hi := f7 _ (List.mem_cons_of_mem _ List.mem_cons_self) k i rfl
  obtain ⟨cell, h1, hs, h2, h3⟩ := ab_arrL Z X.2.2.2.2.2.2.1 f2 hk hi
  rw [hn, ab_ev_obj ht] at hs
  rw [ht] at h2
  refine W.aald (v := .ref (φ kr y)) (ty := .object C) X.1 X.2.1 h1 h2 rfl h3 (ab_inl hs.1 hin) ?_ rfl rfl hd (kk Z p e R s m args below meth c mc ms X φ0 w0 φ H locs cells slots ls ⟨f1, f2, f3, f4, f5, f6, ab_p2 (ab_okR ?_) f6 f7⟩)
  · rw [hs.2.2 _ (ab_inlt hin)]
    show some (va_rf (Option.map (φ (ab_rt k x.toNatClampNeg)) (w.2.2.1 k i x.toNatClampNeg))) = _
    rw [hy, hr]; rfl
  · rw [← hr]; exact f2.2.2.2.2.2.1 k i _ y hi hy
theorem ab_alen {k i n : Nat} {v : Int32} (hk : 12 ≤ k ∧ k < 65) (hd : decode M.2.1 pc = .ok (.arraylength, 1)) (hn : w.2.2.2.2 k i = n) (hv : Int32.ofNat n = v) (kk : ab_G g M d bc bs (pc + 1) L (zI v :: st) w Q) : ab_G g M d bc bs pc L (zR k i :: st) w Q := by
  intro Z p e R s m args below meth c mc ms X φ0 w0 φ H locs cells slots ls F
  obtain ⟨f1, f2, f3, f4, f5, f6, f7⟩ := F
  obtain ⟨cell, h1, hs, h2, h3⟩ := ab_arrL Z X.2.2.2.2.2.2.1 f2 hk (f7 _ List.mem_cons_self k i rfl)
  exact W.alen (n := v) X.1 X.2.1 h1 h2 (by rw [← hv, ← hn]; exact hs.2.1) rfl rfl hd (kk Z p e R s m args below meth c mc ms X φ0 w0 φ H locs cells slots ls ⟨f1, f2, f3, f4, f5, f6, ab_p1 ab_okI f6 f7⟩)
/-- a store into an array: what the row of the kit leaves to show -/
theorem ab_astG {k i j : Nat} {st' : List ab_V} {w' : ab_W} {p : Program} {e : Env} {R : Room} {s : State} {m : MethodId} {args : Array Value} {below : List Frame} {meth : Method} {c : Code} {mc ms : Nat} (Z : ab_Z g) (X : ab_X g M d mc ms p R s m meth c) {φ0 : Nat → Nat → Nat} {w0 : ab_W} {φ : Nat → Nat → Nat} {H : Heap} {locs : List Loc} {cells slots : Nat} {ls : Array Slot} (F : ab_F g M bc bs mc ms L st w φ0 w0 φ H locs cells slots ls)
    (hs : ∀ x ∈ st', x ∈ st) (hk : 12 ≤ k ∧ k < 65) (hi : i < w.2.2.2.1 k) (hro : ab_ro k = false) (hc : w'.2.2.2 = w.2.2.2) (hw : ∀ a b, ¬ (a = k ∧ b = i) → w'.1 a b = w.1 a b ∧ w'.2.1 a b = w.2.1 a b ∧ w'.2.2.1 a b = w.2.2.1 a b) (hR : ∀ j x, w'.2.2.1 k i j = some x → x < w.2.2.2.1 (ab_rt k j))
    {H' : Heap} (e1 : H'[φ k i]? = some (arrV (g.2.2.2.2.1 k) (w'.2.2.2.2 k i) (ab_ev φ w' k i))) (e2 : H'.size = H.size) (e3 : ∀ q, q ≠ φ k i → H'[q]? = H[q]?) (kk : ab_G g M d bc bs (pc + 1) L st' w' Q) :
    W p g.1 e R s m args below meth c H' (locs ++ [⟨φ k i, j⟩]) cells slots (vx_MQ below (ab_QQ g φ0 w0 Q) (ab_XX g φ0 w0 Q) args s mc ms (fun q => g.2.1.heap.size ≤ q)) (F0 m (pc + 1) ls (st'.map (ab_vl φ))) := by
  obtain ⟨f1, f2, f3, f4, f5, f6, f7⟩ := F
  have okc : ∀ v, ab_ok w v → ab_ok w' v := fun v h a b e => by rw [hc]; exact h a b e
  have hb0 := f2.2.2.2.2.1 k i hi hro
  refine kk Z p e R s m args below meth c mc ms X φ0 w0 φ H' _ cells slots ls ⟨f1, f2.put (by omega) hi hro hc hw hR ⟨fun q9 hq9 => ?_, fun h12 => ab_ar.of e1⟩ e2 e3, fun a b hb => ?_, ?_, f5, fun x hx => okc _ (f6 x hx), fun x hx => okc _ (f7 x (hs x hx))⟩
  · exact absurd (ab_cls k q9 hq9).1 (by omega)
  · rw [hc]; exact f3 a b hb
  · intro x hx
    rcases List.mem_append.mp hx with h | h
    · exact f4 x h
    · rw [List.mem_singleton.mp h]; exact hb0
theorem ab_sub3 {a b c : ab_V} {st : List ab_V} : ∀ x ∈ st, x ∈ a :: b :: c :: st := fun _ h => List.mem_cons_of_mem _ (List.mem_cons_of_mem _ (List.mem_cons_of_mem _ h))
theorem ab_iastore {k i n : Nat} {x y : Int32} (hk : 12 ≤ k ∧ k < 65) (ht : ab_et k = .int) (hro : ab_ro k = false) (hd : decode M.2.1 pc = .ok (.iastore, 1)) (hn : w.2.2.2.2 k i = n) (hin : vp_in x n) (kk : ab_G g M d bc bs (pc + 1) L st (ab_sI w k i x.toNatClampNeg y) Q) : ab_G g M d bc bs pc L (zI y :: zI x :: zR k i :: st) w Q := by
  intro Z p e R s m args below meth c mc ms X φ0 w0 φ H locs cells slots ls F
  have hi := F.2.2.2.2.2.2 _ (List.mem_cons_of_mem _ (List.mem_cons_of_mem _ List.mem_cons_self)) k i rfl
  obtain ⟨h1, h2, -⟩ := ab_arr Z X.2.2.2.2.2.2.1 F.2.1 hk hi hro
  rw [ht] at h2
  refine W.iast X.1 X.2.1 h1 (h2 _ _) (fun q => by cases q) (ab_inb (by rw [hn]; exact hin)) rfl rfl hd fun H' e1 e2 e3 => ?_
  refine ab_astG (w' := ab_sI w k i x.toNatClampNeg y) Z X F ab_sub3 hk hi hro rfl (fun a b h => ⟨by funext z; exact if_neg (fun q => h ⟨q.1, q.2.1⟩), rfl, rfl⟩) (fun j z => F.2.1.2.2.2.2.2.1 k i j z hi) ?_ e2 e3 kk
  rw [e1, arrV_store, ab_ev_int (Or.inl ht), ab_ev_int (Or.inl ht)]
  congr 2
  funext z
  by_cases ez : z = x.toNatClampNeg <;> simp [updV, ab_sI, ez]
theorem ab_lastore {k i n : Nat} {x : Int32} {y : Int64} (hk : 12 ≤ k ∧ k < 65) (ht : ab_et k = .long) (hro : ab_ro k = false) (hd : decode M.2.1 pc = .ok (.lastore, 1)) (hn : w.2.2.2.2 k i = n) (hin : vp_in x n) (kk : ab_G g M d bc bs (pc + 1) L st (ab_sJ w k i x.toNatClampNeg y) Q) : ab_G g M d bc bs pc L (zJ y :: zI x :: zR k i :: st) w Q := by
  intro Z p e R s m args below meth c mc ms X φ0 w0 φ H locs cells slots ls F
  have hi := F.2.2.2.2.2.2 _ (List.mem_cons_of_mem _ (List.mem_cons_of_mem _ List.mem_cons_self)) k i rfl
  obtain ⟨h1, h2, -⟩ := ab_arr Z X.2.2.2.2.2.2.1 F.2.1 hk hi hro
  rw [ht] at h2
  refine W.last X.1 X.2.1 h1 (h2 _ _) (fun q => by cases q) (ab_inb (by rw [hn]; exact hin)) rfl rfl hd fun H' e1 e2 e3 => ?_
  refine ab_astG (w' := ab_sJ w k i x.toNatClampNeg y) Z X F ab_sub3 hk hi hro rfl (fun a b h => ⟨rfl, by funext z; exact if_neg (fun q => h ⟨q.1, q.2.1⟩), rfl⟩) (fun j z => F.2.1.2.2.2.2.2.1 k i j z hi) ?_ e2 e3 kk
  rw [e1, arrV_store, ab_ev_long ht, ab_ev_long ht]
  congr 2
  funext z
  by_cases ez : z = x.toNatClampNeg <;> simp [updV, ab_sJ, ez]
theorem ab_bastore {k i n : Nat} {x y : Int32} (hk : 12 ≤ k ∧ k < 65) (ht : ab_et k = .byte) (hro : ab_ro k = false) (hd : decode M.2.1 pc = .ok (.bastore, 1)) (hn : w.2.2.2.2 k i = n) (hin : vp_in x n) (kk : ab_G g M d bc bs (pc + 1) L st (ab_sI w k i x.toNatClampNeg y.toInt8.toInt32) Q) : ab_G g M d bc bs pc L (zI y :: zI x :: zR k i :: st) w Q := by
  intro Z p e R s m args below meth c mc ms X φ0 w0 φ H locs cells slots ls F
  have hi := F.2.2.2.2.2.2 _ (List.mem_cons_of_mem _ (List.mem_cons_of_mem _ List.mem_cons_self)) k i rfl
  obtain ⟨h1, h2, -⟩ := ab_arr Z X.2.2.2.2.2.2.1 F.2.1 hk hi hro
  rw [ht] at h2
  refine W.bast X.1 X.2.1 h1 (h2 _ _) (fun q => by cases q) (ab_inb (by rw [hn]; exact hin)) rfl rfl hd fun H' e1 e2 e3 => ?_
  refine ab_astG (w' := ab_sI w k i x.toNatClampNeg y.toInt8.toInt32) Z X F ab_sub3 hk hi hro rfl (fun a b h => ⟨by funext z; exact if_neg (fun q => h ⟨q.1, q.2.1⟩), rfl, rfl⟩) (fun j z => F.2.1.2.2.2.2.2.1 k i j z hi) ?_ e2 e3 kk
  rw [e1, show narrow .byte (.int y) = .int y.toInt8.toInt32 from rfl, arrV_store, ab_ev_int (Or.inr (Or.inl ht)), ab_ev_int (Or.inr (Or.inl ht))]
  congr 2
  funext z
  by_cases ez : z = x.toNatClampNeg <;> simp [updV, ab_sI, ez]
theorem ab_zastore {k i n : Nat} {x y : Int32} (hk : 12 ≤ k ∧ k < 65) (ht : ab_et k = .boolean) (hro : ab_ro k = false) (hd : decode M.2.1 pc = .ok (.bastore, 1)) (hn : w.2.2.2.2 k i = n) (hin : vp_in x n) (kk : ab_G g M d bc bs (pc + 1) L st (ab_sI w k i x.toNatClampNeg (vp_nar .boolean y)) Q) : ab_G g M d bc bs pc L (zI y :: zI x :: zR k i :: st) w Q := by
  intro Z p e R s m args below meth c mc ms X φ0 w0 φ H locs cells slots ls F
  have hi := F.2.2.2.2.2.2 _ (List.mem_cons_of_mem _ (List.mem_cons_of_mem _ List.mem_cons_self)) k i rfl
  obtain ⟨h1, h2, -⟩ := ab_arr Z X.2.2.2.2.2.2.1 F.2.1 hk hi hro
  rw [ht] at h2
  refine W.zast X.1 X.2.1 h1 (h2 _ _) (fun q => by cases q) (ab_inb (by rw [hn]; exact hin)) rfl rfl hd fun H' e1 e2 e3 => ?_
  refine ab_astG (w' := ab_sI w k i x.toNatClampNeg (vp_nar .boolean y)) Z X F ab_sub3 hk hi hro rfl (fun a b h => ⟨by funext z; exact if_neg (fun q => h ⟨q.1, q.2.1⟩), rfl, rfl⟩) (fun j z => F.2.1.2.2.2.2.2.1 k i j z hi) ?_ e2 e3 kk
  rw [e1, show narrow .boolean (.int y) = .int (vp_nar .boolean y) from rfl, arrV_store, ab_ev_int (Or.inr (Or.inr ht)), ab_ev_int (Or.inr (Or.inr ht))]
  congr 2
  funext z
  by_cases ez : z = x.toNatClampNeg <;> simp [updV, ab_sI, ez]
end AB3
