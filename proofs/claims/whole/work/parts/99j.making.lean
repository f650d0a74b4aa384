/-! WORLDS IN THE MAKING -/
def kw_u (c : Nat → Nat) (k : Nat) : Nat → Nat := fun a => if a = k then c k + 1 else c a
def kw_f {α : Type} (f : Nat → α) (j : Nat) (x : α) : Nat → α := fun z => if z = j then x else f z
/-- T: what is there at last; w: what was there before; k, i: the object in the making, with its fields; c: how many there are now -/
def kw (T w : ab_W) (k i : Nat) (c : Nat → Nat) (fI : Nat → Int32) (fJ : Nat → Int64) (fR : Nat → Option Nat) : ab_W :=
  (fun a b j => if a = k ∧ b = i then fI j else if w.2.2.2.1 a ≤ b then T.1 a b j else w.1 a b j,
   fun a b j => if a = k ∧ b = i then fJ j else if w.2.2.2.1 a ≤ b then T.2.1 a b j else w.2.1 a b j,
   fun a b j => if a = k ∧ b = i then fR j else if w.2.2.2.1 a ≤ b then T.2.2.1 a b j else w.2.2.1 a b j,
   c, fun a b => if w.2.2.2.1 a ≤ b then T.2.2.2.2 a b else w.2.2.2.2 a b)
def kw_e (T w : ab_W) (k i : Nat) (c : Nat → Nat) : ab_W := kw T w k i c (T.1 k i) (T.2.1 k i) (T.2.2.1 k i)
/-- an object that is there, all defaults -/
def kw_b (w : ab_W) (k i : Nat) : Prop := i < w.2.2.2.1 k ∧ (∀ j, w.1 k i j = 0) ∧ (∀ j, w.2.1 k i j = 0) ∧ ∀ j, w.2.2.1 k i j = none
/-- at last nothing but defaults there -/
def kw_0 (T : ab_W) (k i N : Nat) : Prop := (∀ j, T.1 k i j = 0) ∧ (∀ j, T.2.1 k i j = 0) ∧ (∀ j, T.2.2.1 k i j = none) ∧ T.2.2.2.2 k i = N
section KW1
variable {T w : ab_W} {k i : Nat} {c : Nat → Nat} {fI : Nat → Int32} {fJ : Nat → Int64} {fR : Nat → Option Nat}
theorem kw_begin (h : kw_b w k i) : ab_eqv w (kw T w k i w.2.2.2.1 (fun _ => 0) (fun _ => 0) (fun _ => none)) := by
  refine ⟨rfl, fun a b hb => ?_⟩
  have hn : ¬ w.2.2.2.1 a ≤ b := by omega
  by_cases e : a = k ∧ b = i
  · obtain ⟨rfl, rfl⟩ := e
    refine ⟨funext fun j => ?_, funext fun j => ?_, funext fun j => ?_, if_neg hn⟩
    · rw [h.2.1 j]; exact if_pos ⟨rfl, rfl⟩
    · rw [h.2.2.1 j]; exact if_pos ⟨rfl, rfl⟩
    · rw [h.2.2.2 j]; exact if_pos ⟨rfl, rfl⟩
  · exact ⟨funext fun j => (if_neg e).trans (if_neg hn), funext fun j => (if_neg e).trans (if_neg hn), funext fun j => (if_neg e).trans (if_neg hn), if_neg hn⟩
theorem kw_na {k2 N : Nat} (hle : w.2.2.2.1 k2 ≤ c k2) (hne : ¬ (k2 = k ∧ c k2 = i)) (h0 : kw_0 T k2 (c k2) N) : ab_na (kw T w k i c fI fJ fR) k2 N = kw T w k i (kw_u c k2) fI fJ fR := by
  refine Prod.ext (funext fun a => funext fun b => funext fun j => ?_) (Prod.ext (funext fun a => funext fun b => funext fun j => ?_) (Prod.ext (funext fun a => funext fun b => funext fun j => ?_) (Prod.ext rfl (funext fun a => funext fun b => ?_))))
  · show (if a = k2 ∧ b = c k2 then (0 : Int32) else (kw T w k i c fI fJ fR).1 a b j) = _
    by_cases e : a = k2 ∧ b = c k2
    · obtain ⟨rfl, rfl⟩ := e
      rw [if_pos ⟨rfl, rfl⟩]
      exact (((if_neg hne).trans (if_pos hle)).trans (h0.1 j)).symm
    · rw [if_neg e]; rfl
  · show (if a = k2 ∧ b = c k2 then (0 : Int64) else (kw T w k i c fI fJ fR).2.1 a b j) = _
    by_cases e : a = k2 ∧ b = c k2
    · obtain ⟨rfl, rfl⟩ := e
      rw [if_pos ⟨rfl, rfl⟩]
      exact (((if_neg hne).trans (if_pos hle)).trans (h0.2.1 j)).symm
    · rw [if_neg e]; rfl
  · show (if a = k2 ∧ b = c k2 then none else (kw T w k i c fI fJ fR).2.2.1 a b j) = _
    by_cases e : a = k2 ∧ b = c k2
    · obtain ⟨rfl, rfl⟩ := e
      rw [if_pos ⟨rfl, rfl⟩]
      exact (((if_neg hne).trans (if_pos hle)).trans (h0.2.2.1 j)).symm
    · rw [if_neg e]; rfl
  · show (if a = k2 ∧ b = c k2 then N else (kw T w k i c fI fJ fR).2.2.2.2 a b) = _
    by_cases e : a = k2 ∧ b = c k2
    · obtain ⟨rfl, rfl⟩ := e
      rw [if_pos ⟨rfl, rfl⟩]
      exact ((if_pos hle).trans h0.2.2.2).symm
    · rw [if_neg e]; rfl
theorem kw_sub {k2 : Nat} {c' : Nat → Nat} (hi : i < w.2.2.2.1 k) (hle : ∀ a, w.2.2.2.1 a ≤ c a) (hl : T.2.2.2.2 k2 (c k2) = 0) : kw_e T (ab_na (kw T w k i c fI fJ fR) k2 0) k2 (c k2) c' = kw T w k i c' fI fJ fR := by
  have hne : ¬ (k2 = k ∧ c k2 = i) := fun q => by have := hle k; rw [q.1] at q; omega
  have hcn : ∀ a, (ab_na (kw T w k i c fI fJ fR) k2 0).2.2.2.1 a = if a = k2 then c k2 + 1 else c a := fun a => rfl
  have hge : ∀ a, c a ≤ (ab_na (kw T w k i c fI fJ fR) k2 0).2.2.2.1 a := fun a => by
    rw [hcn]
    by_cases e : a = k2
    · subst e; rw [if_pos rfl]; omega
    · rw [if_neg e]; exact Nat.le_refl _
  have hno : ∀ a b, (ab_na (kw T w k i c fI fJ fR) k2 0).2.2.2.1 a ≤ b → ¬ (a = k ∧ b = i) ∧ w.2.2.2.1 a ≤ b := fun a b h => by
    have h1 := hge a
    have h2 := hle a
    refine ⟨fun q => ?_, by omega⟩
    obtain ⟨rfl, rfl⟩ := q
    omega
  refine Prod.ext (funext fun a => funext fun b => funext fun j => ?_) (Prod.ext (funext fun a => funext fun b => funext fun j => ?_) (Prod.ext (funext fun a => funext fun b => funext fun j => ?_) (Prod.ext rfl (funext fun a => funext fun b => ?_))))
  · show (if a = k2 ∧ b = c k2 then T.1 k2 (c k2) j else if (ab_na (kw T w k i c fI fJ fR) k2 0).2.2.2.1 a ≤ b then T.1 a b j else if a = k2 ∧ b = c k2 then 0 else (kw T w k i c fI fJ fR).1 a b j) = _
    by_cases e : a = k2 ∧ b = c k2
    · obtain ⟨rfl, rfl⟩ := e
      rw [if_pos ⟨rfl, rfl⟩]
      exact ((if_neg hne).trans (if_pos (hle _))).symm
    · rw [if_neg e]
      by_cases h : (ab_na (kw T w k i c fI fJ fR) k2 0).2.2.2.1 a ≤ b
      · rw [if_pos h]
        exact ((if_neg (hno a b h).1).trans (if_pos (hno a b h).2)).symm
      · rw [if_neg h, if_neg e]; rfl
  · show (if a = k2 ∧ b = c k2 then T.2.1 k2 (c k2) j else if (ab_na (kw T w k i c fI fJ fR) k2 0).2.2.2.1 a ≤ b then T.2.1 a b j else if a = k2 ∧ b = c k2 then 0 else (kw T w k i c fI fJ fR).2.1 a b j) = _
    by_cases e : a = k2 ∧ b = c k2
    · obtain ⟨rfl, rfl⟩ := e
      rw [if_pos ⟨rfl, rfl⟩]
      exact ((if_neg hne).trans (if_pos (hle _))).symm
    · rw [if_neg e]
      by_cases h : (ab_na (kw T w k i c fI fJ fR) k2 0).2.2.2.1 a ≤ b
      · rw [if_pos h]
        exact ((if_neg (hno a b h).1).trans (if_pos (hno a b h).2)).symm
      · rw [if_neg h, if_neg e]; rfl
  · show (if a = k2 ∧ b = c k2 then T.2.2.1 k2 (c k2) j else if (ab_na (kw T w k i c fI fJ fR) k2 0).2.2.2.1 a ≤ b then T.2.2.1 a b j else if a = k2 ∧ b = c k2 then none else (kw T w k i c fI fJ fR).2.2.1 a b j) = _
    by_cases e : a = k2 ∧ b = c k2
    · obtain ⟨rfl, rfl⟩ := e
      rw [if_pos ⟨rfl, rfl⟩]
      exact ((if_neg hne).trans (if_pos (hle _))).symm
    · rw [if_neg e]
      by_cases h : (ab_na (kw T w k i c fI fJ fR) k2 0).2.2.2.1 a ≤ b
      · rw [if_pos h]
        exact ((if_neg (hno a b h).1).trans (if_pos (hno a b h).2)).symm
      · rw [if_neg h, if_neg e]; rfl
  · show (if (ab_na (kw T w k i c fI fJ fR) k2 0).2.2.2.1 a ≤ b then T.2.2.2.2 a b else if a = k2 ∧ b = c k2 then 0 else (kw T w k i c fI fJ fR).2.2.2.2 a b) = _
    by_cases h : (ab_na (kw T w k i c fI fJ fR) k2 0).2.2.2.1 a ≤ b
    · rw [if_pos h]
      exact (if_pos (hno a b h).2).symm
    · rw [if_neg h]
      by_cases e : a = k2 ∧ b = c k2
      · obtain ⟨rfl, rfl⟩ := e
        rw [if_pos ⟨rfl, rfl⟩, ← hl]
        exact (if_pos (hle _)).symm
      · rw [if_neg e]; rfl
theorem kw_blank {k2 : Nat} {w : ab_W} : kw_b (ab_na w k2 0) k2 (w.2.2.2.1 k2) := ⟨by show _ < if k2 = k2 then _ else _; rw [if_pos rfl]; omega, fun _ => if_pos ⟨rfl, rfl⟩, fun _ => if_pos ⟨rfl, rfl⟩, fun _ => if_pos ⟨rfl, rfl⟩⟩
theorem kw_sR {j : Nat} {x : Option Nat} : ab_sR (kw T w k i c fI fJ fR) k i j x = kw T w k i c fI fJ (kw_f fR j x) := by
  refine Prod.ext rfl (Prod.ext rfl (Prod.ext (funext fun a => funext fun b => funext fun z => ?_) rfl))
  show (if a = k ∧ b = i ∧ z = j then x else if a = k ∧ b = i then fR z else _) = if a = k ∧ b = i then (if z = j then x else fR z) else _
  by_cases e : a = k ∧ b = i
  · by_cases ez : z = j
    · simp [e, ez]
    · simp [e, ez]
  · rw [if_neg (fun q => e ⟨q.1, q.2.1⟩), if_neg e, if_neg e]
theorem kw_sI {j : Nat} {x : Int32} : ab_sI (kw T w k i c fI fJ fR) k i j x = kw T w k i c (kw_f fI j x) fJ fR := by
  refine Prod.ext (funext fun a => funext fun b => funext fun z => ?_) rfl
  show (if a = k ∧ b = i ∧ z = j then x else if a = k ∧ b = i then fI z else _) = if a = k ∧ b = i then (if z = j then x else fI z) else _
  by_cases e : a = k ∧ b = i
  · by_cases ez : z = j
    · simp [e, ez]
    · simp [e, ez]
  · rw [if_neg (fun q => e ⟨q.1, q.2.1⟩), if_neg e, if_neg e]
theorem kw_sJ {j : Nat} {x : Int64} : ab_sJ (kw T w k i c fI fJ fR) k i j x = kw T w k i c fI (kw_f fJ j x) fR := by
  refine Prod.ext rfl (Prod.ext (funext fun a => funext fun b => funext fun z => ?_) rfl)
  show (if a = k ∧ b = i ∧ z = j then x else if a = k ∧ b = i then fJ z else _) = if a = k ∧ b = i then (if z = j then x else fJ z) else _
  by_cases e : a = k ∧ b = i
  · by_cases ez : z = j
    · simp [e, ez]
    · simp [e, ez]
  · rw [if_neg (fun q => e ⟨q.1, q.2.1⟩), if_neg e, if_neg e]
end KW1
/-- the last world, but for one cell's references, or longs -/
def kw_tR (T : ab_W) (k i : Nat) (f : Nat → Option Nat) : ab_W := (T.1, T.2.1, fun a b j => if a = k ∧ b = i then f j else T.2.2.1 a b j, T.2.2.2)
def kw_tJ (T : ab_W) (k i : Nat) (f : Nat → Int64) : ab_W := (T.1, fun a b j => if a = k ∧ b = i then f j else T.2.1 a b j, T.2.2)
theorem kw_tR_id {T : ab_W} {k i : Nat} {f : Nat → Option Nat} (h : ∀ j, f j = T.2.2.1 k i j) : kw_tR T k i f = T := by
  refine Prod.ext rfl (Prod.ext rfl (Prod.ext (funext fun a => funext fun b => funext fun z => ?_) rfl))
  show (if a = k ∧ b = i then f z else T.2.2.1 a b z) = T.2.2.1 a b z
  by_cases e : a = k ∧ b = i
  · rw [if_pos e, e.1, e.2]; exact h z
  · rw [if_neg e]
theorem kw_tJ_id {T : ab_W} {k i : Nat} {f : Nat → Int64} (h : ∀ j, f j = T.2.1 k i j) : kw_tJ T k i f = T := by
  refine Prod.ext rfl (Prod.ext (funext fun a => funext fun b => funext fun z => ?_) rfl)
  show (if a = k ∧ b = i then f z else T.2.1 a b z) = T.2.1 a b z
  by_cases e : a = k ∧ b = i
  · rw [if_pos e, e.1, e.2]; exact h z
  · rw [if_neg e]
section KW2
variable {T w : ab_W} {k i : Nat} {c : Nat → Nat} {fI : Nat → Int32} {fJ : Nat → Int64} {fR : Nat → Option Nat}
theorem kw_stR {k2 i2 j : Nat} {f : Nat → Option Nat} {x : Option Nat} (hle : w.2.2.2.1 k2 ≤ i2) (hne : ¬ (k2 = k ∧ i2 = i)) : ab_sR (kw (kw_tR T k2 i2 f) w k i c fI fJ fR) k2 i2 j x = kw (kw_tR T k2 i2 (kw_f f j x)) w k i c fI fJ fR := by
  refine Prod.ext rfl (Prod.ext rfl (Prod.ext (funext fun a => funext fun b => funext fun z => ?_) rfl))
  show (if a = k2 ∧ b = i2 ∧ z = j then x else if a = k ∧ b = i then fR z else if w.2.2.2.1 a ≤ b then (if a = k2 ∧ b = i2 then f z else T.2.2.1 a b z) else w.2.2.1 a b z) = if a = k ∧ b = i then fR z else if w.2.2.2.1 a ≤ b then (if a = k2 ∧ b = i2 then (if z = j then x else f z) else T.2.2.1 a b z) else w.2.2.1 a b z
  by_cases e : a = k2 ∧ b = i2
  · obtain ⟨rfl, rfl⟩ := e
    by_cases ez : z = j
    · rw [if_pos ⟨rfl, rfl, ez⟩, if_neg hne, if_pos hle, if_pos ⟨rfl, rfl⟩, if_pos ez]
    · rw [if_neg (fun q => ez q.2.2), if_neg hne, if_pos hle, if_pos ⟨rfl, rfl⟩, if_neg hne, if_pos hle, if_pos ⟨rfl, rfl⟩, if_neg ez]
  · rw [if_neg (fun q => e ⟨q.1, q.2.1⟩), if_neg e, if_neg e]
theorem kw_stJ {k2 i2 j : Nat} {f : Nat → Int64} {x : Int64} (hle : w.2.2.2.1 k2 ≤ i2) (hne : ¬ (k2 = k ∧ i2 = i)) : ab_sJ (kw (kw_tJ T k2 i2 f) w k i c fI fJ fR) k2 i2 j x = kw (kw_tJ T k2 i2 (kw_f f j x)) w k i c fI fJ fR := by
  refine Prod.ext rfl (Prod.ext (funext fun a => funext fun b => funext fun z => ?_) rfl)
  show (if a = k2 ∧ b = i2 ∧ z = j then x else if a = k ∧ b = i then fJ z else if w.2.2.2.1 a ≤ b then (if a = k2 ∧ b = i2 then f z else T.2.1 a b z) else w.2.1 a b z) = if a = k ∧ b = i then fJ z else if w.2.2.2.1 a ≤ b then (if a = k2 ∧ b = i2 then (if z = j then x else f z) else T.2.1 a b z) else w.2.1 a b z
  by_cases e : a = k2 ∧ b = i2
  · obtain ⟨rfl, rfl⟩ := e
    by_cases ez : z = j
    · rw [if_pos ⟨rfl, rfl, ez⟩, if_neg hne, if_pos hle, if_pos ⟨rfl, rfl⟩, if_pos ez]
    · rw [if_neg (fun q => ez q.2.2), if_neg hne, if_pos hle, if_pos ⟨rfl, rfl⟩, if_neg hne, if_pos hle, if_pos ⟨rfl, rfl⟩, if_neg ez]
  · rw [if_neg (fun q => e ⟨q.1, q.2.1⟩), if_neg e, if_neg e]
end KW2
/-- a class that can be made: n slots -/
def kw_kd (t : FieldType) : Bool := match t with
  | .int => true
  | .long => true
  | .object _ => true
  | .array _ => true
  | _ => false
theorem kw_kd_ok {t : FieldType} (h : kw_kd t = true) : t = .int ∨ t = .long ∨ (∃ n, t = .object n) ∨ ∃ u, t = .array u := by
  cases t <;> first | (cases h; done) | exact Or.inl rfl | exact Or.inr (Or.inl rfl) | exact Or.inr (Or.inr (Or.inl ⟨_, rfl⟩)) | exact Or.inr (Or.inr (Or.inr ⟨_, rfl⟩))
def kw_cl (k n : Nat) (C : String) : Prop := ∃ q, ab_cl[k]? = some q ∧ q.1 = C ∧ (∀ j, j < q.2.2 → kw_kd (ab_ty k j) = true) ∧ Cond.instantiable q.1 n ∈ lw_tbl ∧ Cond.initialized q.1 ∈ lw_tbl ∧ goodWord (Cond.instantiable q.1 n) = true
section KW3
variable {g : ab_E} {M : ab_M} {d bc bs pc : Nat} {L : List (Nat × ab_V)} {st : List ab_V} {Q : ab_O → ab_W → Prop} {T w : ab_W} {k i : Nat} {c : Nat → Nat} {fI : Nat → Int32} {fJ : Nat → Int64} {fR : Nat → Option Nat}
theorem kw_newc {w : ab_W} {k n idx : Nat} {C : String} (h : kw_cl k n C) (hl : Cond.classLink M.1.cls idx C ∈ lw_tbl) (hd : decode M.2.1 pc = .ok (.new idx, 3)) (hb : 1 ≤ bc ∧ n ≤ bs) (kk : ab_G g M d (bc - 1) (bs - n) (pc + 3) L (zR k (w.2.2.2.1 k) :: st) (ab_na w k 0) Q) : ab_G g M d bc bs pc L st w Q := by
  obtain ⟨q, h1, rfl, h3, h4, h5, h6⟩ := h
  obtain ⟨a1, a2, a3, -⟩ := ab_cls k q h1
  exact ab_newc h1 a1 a3 (fun j hj => kw_kd_ok (h3 j hj)) hl h4 h5 a2 h6 hd hb kk
theorem kw_newa {k2 i2 N : Nat} {n : Int32} {atype : ArrayType} {ty : FieldType} (hk : 12 ≤ k2 ∧ k2 < 65) (hty : newarray.typeOf atype = ty) (ht : ab_et k2 = ty) (hp : ty = .int ∨ ty = .long ∨ ty = .byte ∨ ty = .boolean) (harr : Cond.arrayClass ty ∈ lw_tbl) (h15 : k2 ≠ 15) (hd : decode M.2.1 pc = .ok (.newarray atype, 2)) (hn : ¬ n < 0) (hN : n.toNatClampNeg = N) (hN2 : N ≤ 10000) (hb : 1 ≤ bc ∧ N ≤ bs) (hk12 : k < 12) (hc : c k2 = i2) (hle : ∀ a, w.2.2.2.1 a ≤ c a) (h0 : kw_0 T k2 i2 N)
    (kk : ab_G g M d (bc - 1) (bs - N) (pc + 2) L (zR k2 i2 :: st) (kw T w k i (kw_u c k2) fI fJ fR) Q) (h63 : k2 ≠ 63 := by decide) : ab_G g M d bc bs pc L (zI n :: st) (kw T w k i c fI fJ fR) Q := by
  subst hc
  refine ab_newa (k := k2) hk hty ht hp harr (fun q => h15 q.1) hd hn hN hN2 hb ?_ h63
  rw [kw_na (hle _) (fun q => by omega) h0]
  exact kk
theorem kw_newq {k2 i2 N idx : Nat} {n : Int32} {C : String} (hk : 12 ≤ k2 ∧ k2 < 65) (ht : ab_et k2 = .object C) (hl : Cond.classLink M.1.cls idx C ∈ lw_tbl) (harr : Cond.arrayOver (.object C) ∈ lw_tbl) (h15 : k2 ≠ 15) (hd : decode M.2.1 pc = .ok (.anewarray idx, 3)) (hn : ¬ n < 0) (hN : n.toNatClampNeg = N) (hN2 : N ≤ 10000) (hb : 1 ≤ bc ∧ N ≤ bs) (hk12 : k < 12) (hc : c k2 = i2) (hle : ∀ a, w.2.2.2.1 a ≤ c a) (h0 : kw_0 T k2 i2 N)
    (kk : ab_G g M d (bc - 1) (bs - N) (pc + 3) L (zR k2 i2 :: st) (kw T w k i (kw_u c k2) fI fJ fR) Q) : ab_G g M d bc bs pc L (zI n :: st) (kw T w k i c fI fJ fR) Q := by
  subst hc
  refine ab_newq (k := k2) hk ht hl harr h15 hd hn hN hN2 hb ?_
  rw [kw_na (hle _) (fun q => by omega) h0]
  exact kk
theorem kw_putF {j idx kr x : Nat} (hf : ab_fl M.1.cls idx k j true) (ht : ab_isR (ab_ty k j) = true) (hr : ab_rt k j = kr) (hro : ab_ro k = false) (hdc : (ab_cl[k]?).map (fun q => (q.2.1 j).1) = some M.1.cls) (hnm : M.1.name = "<init>") (hd : decode M.2.1 pc = .ok (.putfield idx, 3)) (kk : ab_G g M d bc bs (pc + 3) L st (kw T w k i c fI fJ (kw_f fR j (some x))) Q) : ab_G g M d bc bs pc L (zR kr x :: zR k i :: st) (kw T w k i c fI fJ fR) Q := by
  refine ab_putF hf ht hr hro hdc hnm hd ?_
  rw [kw_sR]
  exact kk
theorem kw_putR {j idx kr x : Nat} (hf : ab_fl M.1.cls idx k j false) (ht : ab_isR (ab_ty k j) = true) (hr : ab_rt k j = kr) (hro : ab_ro k = false) (hd : decode M.2.1 pc = .ok (.putfield idx, 3)) (kk : ab_G g M d bc bs (pc + 3) L st (kw T w k i c fI fJ (kw_f fR j (some x))) Q) : ab_G g M d bc bs pc L (zR kr x :: zR k i :: st) (kw T w k i c fI fJ fR) Q := by
  refine ab_putR hf ht hr hro hd ?_
  rw [kw_sR]
  exact kk
theorem kw_putI {j idx : Nat} {x : Int32} (hf : ab_fl M.1.cls idx k j false) (ht : ab_ty k j = .int) (hro : ab_ro k = false) (hd : decode M.2.1 pc = .ok (.putfield idx, 3)) (kk : ab_G g M d bc bs (pc + 3) L st (kw T w k i c (kw_f fI j x) fJ fR) Q) : ab_G g M d bc bs pc L (zI x :: zR k i :: st) (kw T w k i c fI fJ fR) Q := by
  refine ab_putI hf ht hro hd ?_
  rw [kw_sI]
  exact kk
theorem kw_putJ {j idx : Nat} {x : Int64} (hf : ab_fl M.1.cls idx k j false) (ht : ab_ty k j = .long) (hro : ab_ro k = false) (hd : decode M.2.1 pc = .ok (.putfield idx, 3)) (kk : ab_G g M d bc bs (pc + 3) L st (kw T w k i c fI (kw_f fJ j x) fR) Q) : ab_G g M d bc bs pc L (zJ x :: zR k i :: st) (kw T w k i c fI fJ fR) Q := by
  refine ab_putJ hf ht hro hd ?_
  rw [kw_sJ]
  exact kk
theorem kw_getR {j idx x kr : Nat} {fin : Bool} (hf : ab_fl M.1.cls idx k j fin) (ht : ab_isR (ab_ty k j) = true) (hr : ab_rt k j = kr) (hd : decode M.2.1 pc = .ok (.getfield idx, 3)) (hx : fR j = some x) (kk : ab_G g M d bc bs (pc + 3) L (zR kr x :: st) (kw T w k i c fI fJ fR) Q) : ab_G g M d bc bs pc L (zR k i :: st) (kw T w k i c fI fJ fR) Q :=
  ab_getR hf ht hr hd ((if_pos ⟨rfl, rfl⟩).trans hx) kk
theorem kw_ret (hd : decode M.2.1 pc = .ok (.return_, 1)) (hr : M.2.2.2 = none) (hI : ∀ j, fI j = T.1 k i j) (hJ : ∀ j, fJ j = T.2.1 k i j) (hR : ∀ j, fR j = T.2.2.1 k i j) : ab_G g M d bc bs pc L [] (kw T w k i c fI fJ fR) (ab_gives (kw_e T w k i c)) := by
  refine ab_vret hd hr ⟨rfl, ?_⟩
  rw [show fI = T.1 k i from funext hI, show fJ = T.2.1 k i from funext hJ, show fR = T.2.2.1 k i from funext hR]
  rfl
/-- new, dup, the constructor -/
theorem kw_make {k2 i2 n idx idx2 ml dy my sy : Nat} {C : String} {y : MethodName} {cy : ByteArray} {c' : Nat → Nat} (h : kw_cl k2 n C) (hl : Cond.classLink M.1.cls idx C ∈ lw_tbl) (hd1 : decode M.2.1 pc = .ok (.new idx, 3)) (hd2 : decode M.2.1 (pc + 3) = .ok (.dup, 1)) (hd3 : decode M.2.1 (pc + 3 + 1) = .ok (.invokespecial idx2, 3)) (hm : ab_mln M.1.cls idx2 (y, cy, ml, none) ∨ ab_ml M.1.cls idx2 (y, cy, ml, none) 0) (hnm : y.name = "<init>") (hin : Cond.instanceMethod y ∈ lw_tbl)
    (hR : dy + 1 ≤ d ∧ 8 + (ml + 11) + 60 * dy ≤ 60 * d) (hb : (1 ≤ bc ∧ n ≤ bs) ∧ my ≤ bc - 1 ∧ sy ≤ bs - n) (hz : ab_sz st ≤ 7) (hi : i < w.2.2.2.1 k) (hle : ∀ a, w.2.2.2.1 a ≤ c a) (hc : c k2 = i2) (hl0 : T.2.2.2.2 k2 i2 = 0)
    (hC : ab_C g (y, cy, ml, none) dy my sy [zR k2 i2] (ab_na (kw T w k i c fI fJ fR) k2 0) (ab_gives (kw_e T (ab_na (kw T w k i c fI fJ fR) k2 0) k2 i2 c')))
    (kk : ab_G g M d (bc - 1 - my) (bs - n - sy) (pc + 3 + 1 + 3) L (zR k2 i2 :: st) (kw T w k i c' fI fJ fR) Q) : ab_G g M d bc bs pc L st (kw T w k i c fI fJ fR) Q := by
  subst hc
  refine kw_newc (k := k2) h hl hd1 hb.1 ?_
  refine ab_dup hd2 rfl ?_
  rw [← kw_sub (fI := fI) (fJ := fJ) (fR := fR) (c' := c') hi hle hl0] at kk
  have hz2 : ab_sz (zR k2 (c k2) :: st) ≤ 8 := by show 1 + ab_sz st ≤ 8; omega
  rcases hm with hm | hm
  · exact ab_callIN hm hnm hin hd3 hR hb.2 hz2 hC kk
  · exact ab_callI hm hnm hin hd3 hR hb.2 hz2 hC kk
/-- a plain object: new, dup, a constructor that does nothing -/
theorem kw_plain {k2 i2 n idx idx2 ml dy : Nat} {C : String} {y : MethodName} {cy : ByteArray} (h : kw_cl k2 n C) (hl : Cond.classLink M.1.cls idx C ∈ lw_tbl) (hd1 : decode M.2.1 pc = .ok (.new idx, 3)) (hd2 : decode M.2.1 (pc + 3) = .ok (.dup, 1)) (hd3 : decode M.2.1 (pc + 3 + 1) = .ok (.invokespecial idx2, 3)) (hm : ab_mln M.1.cls idx2 (y, cy, ml, none)) (hnm : y.name = "<init>") (hin : Cond.instanceMethod y ∈ lw_tbl)
    (hR : dy + 1 ≤ d ∧ 8 + (ml + 11) + 60 * dy ≤ 60 * d) (hb : 1 ≤ bc ∧ n ≤ bs) (hz : ab_sz st ≤ 7) (hi : i < w.2.2.2.1 k) (hle : ∀ a, w.2.2.2.1 a ≤ c a) (hc : c k2 = i2) (h0 : kw_0 T k2 i2 0)
    (hC : ∀ w : ab_W, ab_C g (y, cy, ml, none) dy 0 0 [zR k2 i2] w (ab_gives w))
    (kk : ab_G g M d (bc - 1) (bs - n) (pc + 3 + 1 + 3) L (zR k2 i2 :: st) (kw T w k i (kw_u c k2) fI fJ fR) Q) : ab_G g M d bc bs pc L st (kw T w k i c fI fJ fR) Q := by
  subst hc
  refine kw_newc (k := k2) h hl hd1 hb ?_
  refine ab_dup hd2 rfl ?_
  rw [kw_na (hle k2) (fun q => by have := hle k; rw [q.1] at q; omega) h0]
  have hz2 : ab_sz (zR k2 (c k2) :: st) ≤ 8 := by show 1 + ab_sz st ≤ 8; omega
  exact ab_callIN hm hnm hin hd3 hR ⟨Nat.zero_le _, Nat.zero_le _⟩ hz2 (hC _) kk
end KW3
theorem kw_le_rf {c : Nat → Nat} : ∀ a, c a ≤ c a := fun _ => Nat.le_refl _
theorem kw_le_u {w c : Nat → Nat} {k : Nat} (h : ∀ a, w a ≤ c a) : ∀ a, w a ≤ kw_u c k a := fun a => by
  unfold kw_u
  have := h a
  split
  · subst_vars; omega
  · exact this
