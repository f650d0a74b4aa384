/-! THE ABSTRACT MACHINE: worlds of typed maps (kind, number, place) over the machine's heap; one judgement ab_G for a frame, one ab_C for a call -/
/-- ints, longs, references (by number within the kind that they refer to), how many of a kind, lengths -/
abbrev ab_W : Type := (Nat → Nat → Nat → Int32) × (Nat → Nat → Nat → Int64) × (Nat → Nat → Nat → Option Nat) × (Nat → Nat) × (Nat → Nat → Nat)
abbrev ab_V : Type := Int32 ⊕ (Int64 ⊕ (UInt64 ⊕ Option (Nat × Nat)))
abbrev zI (x : Int32) : ab_V := Sum.inl x
abbrev zJ (x : Int64) : ab_V := Sum.inr (Sum.inl x)
abbrev zD (x : UInt64) : ab_V := Sum.inr (Sum.inr (Sum.inl x))
abbrev zR (k i : Nat) : ab_V := Sum.inr (Sum.inr (Sum.inr (some (k, i))))
abbrev zN : ab_V := Sum.inr (Sum.inr (Sum.inr none))
def ab_vl (φ : Nat → Nat → Nat) : ab_V → Value
  | Sum.inl x => .int x
  | Sum.inr (Sum.inl x) => .long x
  | Sum.inr (Sum.inr (Sum.inl x)) => .double x
  | Sum.inr (Sum.inr (Sum.inr none)) => .null
  | Sum.inr (Sum.inr (Sum.inr (some q))) => .ref (φ q.1 q.2)
def ab_cat : ab_V → Nat
  | Sum.inl _ => 1
  | Sum.inr (Sum.inl _) => 2
  | Sum.inr (Sum.inr (Sum.inl _)) => 2
  | Sum.inr (Sum.inr (Sum.inr _)) => 1
theorem ab_cat_vl (φ : Nat → Nat → Nat) (v : ab_V) : (ab_vl φ v).category = ab_cat v := by
  rcases v with x | x | x | x
  · rfl
  · rfl
  · rfl
  · cases x <;> rfl
/-- references are to cells that are there -/
def ab_ok (w : ab_W) (v : ab_V) : Prop := ∀ k i : Nat, v = zR k i → i < w.2.2.2.1 k
theorem ab_okI {w : ab_W} {x : Int32} : ab_ok w (zI x) := fun _ _ h => by cases h
theorem ab_okJ {w : ab_W} {x : Int64} : ab_ok w (zJ x) := fun _ _ h => by cases h
theorem ab_okD {w : ab_W} {x : UInt64} : ab_ok w (zD x) := fun _ _ h => by cases h
theorem ab_okR {w : ab_W} {k i : Nat} (h : i < w.2.2.2.1 k) : ab_ok w (zR k i) := fun _ _ q => by cases q; exact h
/-- the launch, the law's own start, class numbers, slots, array classes, addresses of cells that were there before -/
abbrev ab_E : Type := Launch × State × (Nat → ClassId) × (Nat → Nat → Nat) × (Nat → ClassId) × (Nat → Nat → Nat)
def ab_sv (φ : Nat → Nat → Nat) (w : ab_W) (k i j : Nat) : Value := match ab_ty k j with
  | .int => .int (w.1 k i j)
  | .long => .long (w.2.1 k i j)
  | _ => va_rf ((w.2.2.1 k i j).map (φ (ab_rt k j)))
def ab_ev (φ : Nat → Nat → Nat) (w : ab_W) (k i : Nat) : Nat → Value := match ab_et k with
  | .long => fun j => .long (w.2.1 k i j)
  | .object _ => fun j => va_rf ((w.2.2.1 k i j).map (φ (ab_rt k j)))
  | _ => fun j => .int (w.1 k i j)
/-- an array in its cell: of what is never written only what bytecode can see is known -/
def ab_ar (H : Heap) (a : Nat) (cI : ClassId) (N : Nat) (f : Nat → Value) (ro : Bool) : Prop := ∃ cell : Cell, H[a]? = some cell ∧ cell.cls = cI ∧ (N ≤ cell.slots.size ∧ cell.slots.size.toInt32 = Int32.ofNat N ∧ ∀ j : Nat, j < N → cell.slots[j]? = some (f j)) ∧ cell.vm ≠ .unknown ∧ (∀ z, cell.vm ≠ .statics z) ∧ (ro = false → cell = arrV cI N f)
theorem ab_ar.of {H : Heap} {a : Nat} {cI : ClassId} {N : Nat} {f : Nat → Value} {ro : Bool} (h : H[a]? = some (arrV cI N f)) : ab_ar H a cI N f ro := ⟨_, h, rfl, ⟨Nat.le_of_eq (arrV_size _ _ _).symm, by rw [arrV_size], fun j hj => arrV_read _ _ hj⟩, fun q => (by cases q), fun _ q => (by cases q), fun _ => rfl⟩
theorem ab_ar.kept {H H' : Heap} {a : Nat} {cI : ClassId} {N : Nat} {f : Nat → Value} {ro : Bool} (h : ab_ar H a cI N f ro) (hq : H'[a]? = H[a]?) : ab_ar H' a cI N f ro := by
  obtain ⟨cell, h1, h2⟩ := h
  exact ⟨cell, hq.trans h1, h2⟩
theorem ab_ar.lt {H : Heap} {a : Nat} {cI : ClassId} {N : Nat} {f : Nat → Value} {ro : Bool} (h : ab_ar H a cI N f ro) : a < H.size := by
  obtain ⟨cell, h1, -⟩ := h
  exact (Array.getElem?_eq_some_iff.mp h1).1
theorem ab_ar.eq {H : Heap} {a : Nat} {cI : ClassId} {N : Nat} {f : Nat → Value} {ro : Bool} (h : ab_ar H a cI N f ro) (hr : ro = false) : H[a]? = some (arrV cI N f) := by
  obtain ⟨cell, h1, -, -, -, -, h6⟩ := h
  rw [h1, h6 hr]
def ab_cell (g : ab_E) (φ : Nat → Nat → Nat) (w : ab_W) (H : Heap) (k i : Nat) : Prop :=
  (∀ q, ab_cl[k]? = some q → t_OB (φ k i) (g.2.2.1 k) q.2.2 (g.2.2.2.1 k) H (ab_sv φ w k i)) ∧
  (12 ≤ k ∧ k < 65 → ab_ar H (φ k i) (g.2.2.2.2.1 k) (w.2.2.2.2 k i) (ab_ev φ w k i) (ab_ro k))
def ab_HR (g : ab_E) (φ : Nat → Nat → Nat) (w : ab_W) (H : Heap) : Prop :=
  (∀ q : Nat, q < g.2.1.heap.size → H[q]? = g.2.1.heap[q]?) ∧ g.2.1.heap.size ≤ H.size ∧
  (∀ k i, i < w.2.2.2.1 k → ab_cell g φ w H k i) ∧
  (∀ k i k' i', k < 65 → k' < 65 → i < w.2.2.2.1 k → i' < w.2.2.2.1 k' → ab_ro k' = false → φ k i = φ k' i' → k = k' ∧ i = i') ∧
  (∀ k i, i < w.2.2.2.1 k → ab_ro k = false → g.2.1.heap.size ≤ φ k i) ∧
  (∀ k i j x, i < w.2.2.2.1 k → w.2.2.1 k i j = some x → x < w.2.2.2.1 (ab_rt k j)) ∧
  (∀ k, 65 ≤ k → φ k = g.2.2.2.2.2 k) ∧ φ 15 0 = g.2.2.2.2.2 15 0
def ab_ext (w0 : ab_W) (φ0 : Nat → Nat → Nat) (w : ab_W) (φ : Nat → Nat → Nat) : Prop := ∀ k i, i < w0.2.2.2.1 k → i < w.2.2.2.1 k ∧ φ k i = φ0 k i
/-- what is known of the start, once for all -/
def ab_K (g : ab_E) (U : State) : Prop :=
  (∀ (k : Nat) (q : vw_C), ab_cl[k]? = some q → u_Kn U q.1 q.2.1 q.2.2 (g.2.2.1 k) (g.2.2.2.1 k)) ∧ ∀ k, 12 ≤ k → k < 65 → ArrOfT U (g.2.2.2.2.1 k) (ab_et k) ∧ (k ≠ 63 → va_RA U (g.2.2.2.2.1 k) (ab_et k))
theorem ab_K.moved {g : ab_E} {u U : State} (hvm : u.vm.Alike U.vm) (h : ab_K g u) : ab_K g U :=
  ⟨fun k q hq => u_Kn_moved hvm (h.1 k q hq), fun k h1 h2 => ⟨arrOfT_moved hvm (h.2 k h1 h2).1, fun h3 => ((h.2 k h1 h2).2 h3).moved hvm⟩⟩
/-- the written texts: lengths, bytes; where they are loaded -/
def ab_tx : List String := ["dealer", "sale", "rate", "lot", "buyin", "mark", "rule", "age", "open", "units", "price", "seller", "buyer", "due"]
def ab_tb : List (List Int32) := ab_tx.map (fun t => t.toList.map (fun c => Int32.ofNat c.toNat))
def ab_tn : List Nat := ab_tx.map (fun t => t.toList.length)
def ab_A (g : ab_E) (q : Nat) : Prop := g.2.1.heap.size ≤ q
/-- a static of the JDK's that holds a reference, or null -/
def sq (g : ab_E) : Option (Nat × Nat) := if g.2.2.2.2.2 101 1 = 0 then some (101, 0) else none
def sz (g : ab_E) : ab_V := Sum.inr (Sum.inr (Sum.inr (sq g)))
def ab_T (g : ab_E) : Prop :=
  vk_S 14 ab_tn ab_tb (g.2.2.2.2.2 100) (g.2.2.2.2.2 102) (ab_A g) g.2.1 g.2.1.heap ∧ (∀ (own : String) (idx i : Nat), i < 14 → Cond.stringRef own idx (ab_tx.getD i "") ∈ lw_tbl → vk_R own idx (ab_tx.getD i "") (g.2.2.2.2.2 100 i) g.2.1) ∧
  va_Z "java/lang/String" "COMPACT_STRINGS" "Z" (.int 1) (ab_A g) g.2.1 g.2.1.heap ∧ va_Z "jdk/internal/util/Preconditions" "SIOOBE_FORMATTER" "Ljava/util/function/BiFunction;" (ab_vl g.2.2.2.2.2 (sz g)) (ab_A g) g.2.1 g.2.1.heap ∧
  va_Z "FailDesk$House" "NO_RULE" "[I" (.ref (g.2.2.2.2.2 15 0)) (ab_A g) g.2.1 g.2.1.heap ∧ vx_Zq Bundle.tN "UNASSIGNED_STACK" Bundle.steD (ab_A g) g.2.1 g.2.1.heap ∧ vx_Zq Bundle.tN "SUPPRESSED_SENTINEL" Bundle.listD (ab_A g) g.2.1 g.2.1.heap
def ab_Z (g : ab_E) : Prop := g.1.stackTraces = false ∧ (∃ a0 : Array Value, ∀ w ∈ lw_tbl, w.before a0 g.2.1 = true) ∧ ab_K g g.2.1 ∧ ab_T g
/-- a method: its name, code, locals, result -/
abbrev ab_M : Type := MethodName × ByteArray × Nat × Option FieldType
/-- what an outcome is: an answer, or a throw of a class -/
abbrev ab_O : Type := Option ab_V ⊕ String
def ab_QQ (g : ab_E) (φ0 : Nat → Nat → Nat) (w0 : ab_W) (Q : ab_O → ab_W → Prop) : Array Value → State → Outcome → State → Prop := fun _ _ o t =>
  ∃ (v : Option ab_V) (φ : Nat → Nat → Nat) (w : ab_W), o = .returned (v.map (ab_vl φ)) ∧ Q (Sum.inl v) w ∧ ab_HR g φ w t.heap ∧ ab_ext w0 φ0 w φ ∧ ∀ x, v = some x → ab_ok w x
def ab_XX (g : ab_E) (φ0 : Nat → Nat → Nat) (w0 : ab_W) (Q : ab_O → ab_W → Prop) : String → State → State → Prop := fun E _ t =>
  ∃ (φ : Nat → Nat → Nat) (w : ab_W), Q (Sum.inr E) w ∧ ab_HR g φ w t.heap ∧ ab_ext w0 φ0 w φ
/-- the frame's own facts -/
def ab_X (g : ab_E) (M : ab_M) (d mc ms : Nat) (p : Program) (R : Room) (s : State) (m : MethodId) (meth : Method) (c : Code) : Prop :=
  p.tables.exec = Jvm.exec ∧ c.code = M.2.1 ∧ c.maxLocals = M.2.2.1 ∧ s.vm.findClass M.1.cls = some m.cls ∧ meth.sig.returnType = M.2.2.2 ∧ meth.locks = false ∧ g.2.1.WarmedH s.vm ∧ (∀ x ∈ c.exceptionTable.toList, False) ∧ meth.name = M.1.name ∧ d ≤ R.frames ∧ 60 * d ≤ R.locals ∧ mc ≤ R.cells ∧ ms ≤ R.slots ∧ (∀ q : Nat, q < g.2.1.heap.size → s.heap[q]? = g.2.1.heap[q]?) ∧ g.2.1.heap.size ≤ s.heap.size
/-- the frame and the world as they stand -/
def ab_F (g : ab_E) (M : ab_M) (bc bs mc ms : Nat) (L : List (Nat × ab_V)) (st : List ab_V) (w : ab_W) (φ0 : Nat → Nat → Nat) (w0 : ab_W) (φ : Nat → Nat → Nat) (H : Heap) (locs : List Loc) (cells slots : Nat) (ls : Array Slot) : Prop :=
  (cells + bc ≤ mc ∧ slots + bs ≤ ms) ∧ ab_HR g φ w H ∧ ab_ext w0 φ0 w φ ∧ (∀ q ∈ locs, g.2.1.heap.size ≤ q.base) ∧ lv_has ls M.2.2.1 (L.map (fun q => (q.1, ab_vl φ q.2))) ∧ (∀ q ∈ L, ab_ok w q.2) ∧ (∀ v ∈ st, ab_ok w v)
def ab_G (g : ab_E) (M : ab_M) (d bc bs pc : Nat) (L : List (Nat × ab_V)) (st : List ab_V) (w : ab_W) (Q : ab_O → ab_W → Prop) : Prop :=
  ab_Z g → ∀ (p : Program) (e : Env) (R : Room) (s : State) (m : MethodId) (args : Array Value) (below : List Frame) (meth : Method) (c : Code) (mc ms : Nat), ab_X g M d mc ms p R s m meth c →
    ∀ (φ0 : Nat → Nat → Nat) (w0 : ab_W) (φ : Nat → Nat → Nat) (H : Heap) (locs : List Loc) (cells slots : Nat) (ls : Array Slot), ab_F g M bc bs mc ms L st w φ0 w0 φ H locs cells slots ls →
      W p g.1 e R s m args below meth c H locs cells slots (vx_MQ below (ab_QQ g φ0 w0 Q) (ab_XX g φ0 w0 Q) args s mc ms (fun q => g.2.1.heap.size ≤ q)) (F0 m pc ls (st.map (ab_vl φ)))
def ab_rm (d mc ms : Nat) : Room := { frames := d, cells := mc, slots := ms, locals := 60 * d }
def ab_Pc (g : ab_E) (φ : Nat → Nat → Nat) (w : ab_W) (args : List ab_V) : Array Value → State → Prop := fun a U => a = (args.map (ab_vl φ)).toArray ∧ g.2.1.WarmedH U.vm ∧ ab_HR g φ w U.heap
def ab_C (g : ab_E) (M : ab_M) (d mc ms : Nat) (args : List ab_V) (w : ab_W) (Q : ab_O → ab_W → Prop) : Prop :=
  ab_Z g → (∀ v ∈ args, ab_ok w v) → ∀ φ : Nat → Nat → Nat, vx_Met g.1 M.1 [Cond.code M.1 M.2.1 M.2.2.1 M.2.2.2] (ab_rm d mc ms) (ab_Pc g φ w args) (ab_QQ g φ w Q) (ab_XX g φ w Q) mc ms (fun q => g.2.1.heap.size ≤ q)
/-- any word of the tables, at any state of the run -/
theorem ab_word {g : ab_E} (Z : ab_Z g) {U : State} (hW : g.2.1.WarmedH U.vm) {w : Cond} (hm : w ∈ lw_tbl) (hg : goodWord w = true) (a : Array Value) : w.before a U = true := by
  obtain ⟨a0, h⟩ := Z.2.1
  exact word_at hW (good_of_word hg) (h w hm)
theorem ab_ext.rf {w : ab_W} {φ : Nat → Nat → Nat} : ab_ext w φ w φ := fun _ _ h => ⟨h, rfl⟩
theorem ab_ext.tr {w0 w1 w2 : ab_W} {φ0 φ1 φ2 : Nat → Nat → Nat} (h : ab_ext w0 φ0 w1 φ1) (h2 : ab_ext w1 φ1 w2 φ2) : ab_ext w0 φ0 w2 φ2 := fun k i hi => ⟨(h2 k i (h k i hi).1).1, (h2 k i (h k i hi).1).2.trans (h k i hi).2⟩
theorem ab_vl_ext {w0 w : ab_W} {φ0 φ : Nat → Nat → Nat} (h : ab_ext w0 φ0 w φ) {v : ab_V} (hv : ab_ok w0 v) : ab_vl φ v = ab_vl φ0 v := by
  rcases v with x | x | x | x
  · rfl
  · rfl
  · rfl
  · cases x with
    | none => rfl
    | some q => show Value.ref _ = Value.ref _; rw [(h q.1 q.2 (hv q.1 q.2 rfl)).2]
theorem ab_ok_ext {w0 w : ab_W} {φ0 φ : Nat → Nat → Nat} (h : ab_ext w0 φ0 w φ) {v : ab_V} (hv : ab_ok w0 v) : ab_ok w v := fun k i q => (h k i (hv k i q)).1
section AB1
variable {g : ab_E} {M : ab_M} {d bc bs pc : Nat} {L : List (Nat × ab_V)} {st : List ab_V} {w : ab_W} {Q : ab_O → ab_W → Prop}
/-- fewer listed locals, in any order: by their places -/
theorem ab_locals {L' : List (Nat × ab_V)} (ks : List Nat) (hk : ks.filterMap (fun k => L[k]?) = L') (k : ab_G g M d bc bs pc L' st w Q) : ab_G g M d bc bs pc L st w Q := by
  intro Z p e R s m args below meth c mc ms X φ0 w0 φ H locs cells slots ls F
  obtain ⟨f1, f2, f3, f4, f5, f6, f7⟩ := F
  have hm : ∀ q ∈ L', q ∈ L := fun q hq => by
    rw [← hk] at hq
    obtain ⟨i, -, hi⟩ := List.mem_filterMap.mp hq
    exact List.mem_of_getElem? hi
  refine k Z p e R s m args below meth c mc ms X φ0 w0 φ H locs cells slots ls ⟨f1, f2, f3, f4, ⟨f5.1, f5.2.1, fun q hq => ?_⟩, fun q hq => f6 q (hm q hq), f7⟩
  obtain ⟨q', h1, rfl⟩ := List.mem_map.mp hq
  exact f5.2.2 _ (List.mem_map.mpr ⟨q', hm q' h1, rfl⟩)
theorem ab_step {pc' : Nat} {st' : List ab_V} (k : ab_G g M d bc bs pc' L st' w Q) (hs : (∀ q ∈ L, ab_ok w q.2) → (∀ v ∈ st, ab_ok w v) → ∀ v ∈ st', ab_ok w v)
    (h : ∀ (p : Program) (e : Env) (R : Room) (s : State) (m : MethodId) (args : Array Value) (below : List Frame) (meth : Method) (c : Code) (φ : Nat → Nat → Nat) (H : Heap) (locs : List Loc) (cells slots : Nat) (ls : Array Slot) (Q' : State → Prop), p.tables.exec = Jvm.exec → c.code = M.2.1 → g.2.1.WarmedH s.vm → s.vm.findClass M.1.cls = some m.cls → ab_Z g →
      (∀ (i : Nat) (v : ab_V), (i, v) ∈ L → ls[i]? = some (.val (ab_vl φ v))) → W p g.1 e R s m args below meth c H locs cells slots Q' (F0 m pc' ls (st'.map (ab_vl φ))) → W p g.1 e R s m args below meth c H locs cells slots Q' (F0 m pc ls (st.map (ab_vl φ)))) : ab_G g M d bc bs pc L st w Q := by
  intro Z p e R s m args below meth c mc ms X φ0 w0 φ H locs cells slots ls F
  obtain ⟨f1, f2, f3, f4, f5, f6, f7⟩ := F
  exact h p e R s m args below meth c φ H locs cells slots ls _ X.1 X.2.1 X.2.2.2.2.2.2.1 X.2.2.2.1 Z (fun i v hv => f5.2.2 _ (List.mem_map.mpr ⟨(i, v), hv, rfl⟩)) (k Z p e R s m args below meth c mc ms X φ0 w0 φ H locs cells slots ls ⟨f1, f2, f3, f4, f5, f6, hs f6 f7⟩)
theorem ab_p0 {w : ab_W} {L : List (Nat × ab_V)} {st : List ab_V} {v : ab_V} (hv : ab_ok w v) : (∀ q ∈ L, ab_ok w q.2) → (∀ v ∈ st, ab_ok w v) → ∀ x ∈ v :: st, ab_ok w x := fun _ h x hx => (List.mem_cons.mp hx).elim (fun e => e ▸ hv) (h x)
theorem ab_pL {w : ab_W} {L : List (Nat × ab_V)} {st : List ab_V} {i : Nat} {v : ab_V} (hl : (i, v) ∈ L) : (∀ q ∈ L, ab_ok w q.2) → (∀ v ∈ st, ab_ok w v) → ∀ x ∈ v :: st, ab_ok w x := fun hL h x hx => (List.mem_cons.mp hx).elim (fun e => e ▸ hL _ hl) (h x)
theorem ab_p1 {w : ab_W} {L : List (Nat × ab_V)} {st : List ab_V} {a v : ab_V} (hv : ab_ok w v) : (∀ q ∈ L, ab_ok w q.2) → (∀ x ∈ a :: st, ab_ok w x) → ∀ x ∈ v :: st, ab_ok w x := fun hL h => ab_p0 hv hL (fun x hx => h x (List.mem_cons_of_mem _ hx))
theorem ab_p2 {w : ab_W} {L : List (Nat × ab_V)} {st : List ab_V} {a b v : ab_V} (hv : ab_ok w v) : (∀ q ∈ L, ab_ok w q.2) → (∀ x ∈ a :: b :: st, ab_ok w x) → ∀ x ∈ v :: st, ab_ok w x := fun hL h => ab_p0 hv hL (fun x hx => h x (List.mem_cons_of_mem _ (List.mem_cons_of_mem _ hx)))
theorem ab_q0 {w : ab_W} {L : List (Nat × ab_V)} {st : List ab_V} : (∀ q ∈ L, ab_ok w q.2) → (∀ x ∈ st, ab_ok w x) → ∀ x ∈ st, ab_ok w x := fun _ h => h
theorem ab_q1 {w : ab_W} {L : List (Nat × ab_V)} {st : List ab_V} {a : ab_V} : (∀ q ∈ L, ab_ok w q.2) → (∀ x ∈ a :: st, ab_ok w x) → ∀ x ∈ st, ab_ok w x := fun _ h x hx => h x (List.mem_cons_of_mem _ hx)
theorem ab_q2 {w : ab_W} {L : List (Nat × ab_V)} {st : List ab_V} {a b : ab_V} : (∀ q ∈ L, ab_ok w q.2) → (∀ x ∈ a :: b :: st, ab_ok w x) → ∀ x ∈ st, ab_ok w x := fun _ h x hx => h x (List.mem_cons_of_mem _ (List.mem_cons_of_mem _ hx))
theorem ab_pd {w : ab_W} {L : List (Nat × ab_V)} {st : List ab_V} {a : ab_V} : (∀ q ∈ L, ab_ok w q.2) → (∀ x ∈ a :: st, ab_ok w x) → ∀ x ∈ a :: a :: st, ab_ok w x := fun hL h => ab_p0 (h a List.mem_cons_self) hL h
theorem ab_pd2 {w : ab_W} {L : List (Nat × ab_V)} {st : List ab_V} {a b : ab_V} : (∀ q ∈ L, ab_ok w q.2) → (∀ x ∈ a :: b :: st, ab_ok w x) → ∀ x ∈ a :: b :: a :: b :: st, ab_ok w x := fun hL h => ab_p0 (h a List.mem_cons_self) hL (ab_p0 (h b (List.mem_cons_of_mem _ List.mem_cons_self)) hL h)
theorem ab_iconst {n : Int} {v : Int32} (hd : decode M.2.1 pc = .ok (.iconst n, 1)) (hv : Int32.ofInt n = v) (k : ab_G g M d bc bs (pc + 1) L (zI v :: st) w Q) : ab_G g M d bc bs pc L st w Q := ab_step k (ab_p0 ab_okI) fun _ _ _ _ _ _ _ _ _ _ _ _ _ _ _ _ hx hb _ _ _ _ kk => lv_iconst hx hb hd hv kk
theorem ab_bipush {n : Int} {v : Int32} (hd : decode M.2.1 pc = .ok (.bipush n, 2)) (hv : (Int8.ofInt n).toInt32 = v) (k : ab_G g M d bc bs (pc + 2) L (zI v :: st) w Q) : ab_G g M d bc bs pc L st w Q := ab_step k (ab_p0 ab_okI) fun _ _ _ _ _ _ _ _ _ _ _ _ _ _ _ _ hx hb _ _ _ _ kk => lv_bipush hx hb hd hv kk
theorem ab_sipush {n : Int} {v : Int32} (hd : decode M.2.1 pc = .ok (.sipush n, 3)) (hv : (Int16.ofInt n).toInt32 = v) (k : ab_G g M d bc bs (pc + 3) L (zI v :: st) w Q) : ab_G g M d bc bs pc L st w Q := ab_step k (ab_p0 ab_okI) fun _ _ _ _ _ _ _ _ _ _ _ _ _ _ _ _ hx hb _ _ _ _ kk => lv_sipush hx hb hd hv kk
theorem ab_lconst {n : Fin 2} {v : Int64} (hd : decode M.2.1 pc = .ok (.lconst n, 1)) (hv : Int64.ofNat (n : Nat) = v) (k : ab_G g M d bc bs (pc + 1) L (zJ v :: st) w Q) : ab_G g M d bc bs pc L st w Q := ab_step k (ab_p0 ab_okJ) fun _ _ _ _ _ _ _ _ _ _ _ _ _ _ _ _ hx hb _ _ _ _ kk => lv_lconst hx hb hd hv kk
theorem ab_dconst0  (hd : decode M.2.1 pc = .ok (.dconst 0, 1)) (k : ab_G g M d bc bs (pc + 1) L (zD FP.dconst0 :: st) w Q) : ab_G g M d bc bs pc L st w Q := ab_step k (ab_p0 ab_okD) fun _ _ _ _ _ _ _ _ _ _ _ _ _ _ _ _ hx hb _ _ _ _ kk => lv_dconst0 hx hb hd kk
theorem ab_ldc {v : Int32} {idx : Nat} (hm : Cond.constant M.1.cls idx v ∈ lw_tbl) (hd : decode M.2.1 pc = .ok (.ldc idx, 2)) (k : ab_G g M d bc bs (pc + 2) L (zI v :: st) w Q) : ab_G g M d bc bs pc L st w Q := ab_step k (ab_p0 ab_okI) fun _ _ _ _ _ a _ _ _ _ _ _ _ _ _ _ hx hb hW ho Z _ kk => lv_ldc hx hb ho (ab_word Z hW hm rfl a) hd kk
theorem ab_ldc2 {v : Int64} {idx : Nat} (hm : Cond.constantLong M.1.cls idx v ∈ lw_tbl) (hd : decode M.2.1 pc = .ok (.ldc2_w idx, 3)) (k : ab_G g M d bc bs (pc + 3) L (zJ v :: st) w Q) : ab_G g M d bc bs pc L st w Q := ab_step k (ab_p0 ab_okJ) fun _ _ _ _ _ a _ _ _ _ _ _ _ _ _ _ hx hb hW ho Z _ kk => lv_ldc2 hx hb ho (ab_word Z hW hm rfl a) hd kk
theorem ab_ldc2d {v : UInt64} {idx : Nat} (hm : Cond.constantDouble M.1.cls idx v ∈ lw_tbl) (hd : decode M.2.1 pc = .ok (.ldc2_w idx, 3)) (k : ab_G g M d bc bs (pc + 3) L (zD v :: st) w Q) : ab_G g M d bc bs pc L st w Q := ab_step k (ab_p0 ab_okD) fun _ _ _ _ _ a _ _ _ _ _ _ _ _ _ _ hx hb hW ho Z _ kk => lv_ldc2d hx hb ho (ab_word Z hW hm rfl a) hd kk
theorem ab_iload_n {n : Fin 4} {i : Nat} {x : Int32} (j : Nat) (hd : decode M.2.1 pc = .ok (.iload_n n, 1)) (hi : (n : Nat) = i) (hl : L[j]? = some (i, zI x)) (k : ab_G g M d bc bs (pc + 1) L (zI x :: st) w Q) : ab_G g M d bc bs pc L st w Q := ab_step k (ab_p0 ab_okI) fun _ _ _ _ _ _ _ _ _ _ _ _ _ _ _ _ hx hb _ _ _ ha kk => lv_iload_n hx hb hd hi (ha _ _ (List.mem_of_getElem? hl)) kk
theorem ab_iload {i : Nat} {x : Int32} (j : Nat) (hd : decode M.2.1 pc = .ok (.iload i, 2)) (hl : L[j]? = some (i, zI x)) (k : ab_G g M d bc bs (pc + 2) L (zI x :: st) w Q) : ab_G g M d bc bs pc L st w Q := ab_step k (ab_p0 ab_okI) fun _ _ _ _ _ _ _ _ _ _ _ _ _ _ _ _ hx hb _ _ _ ha kk => lv_iload hx hb hd (ha _ _ (List.mem_of_getElem? hl)) kk
theorem ab_lload_n {n : Fin 4} {i : Nat} {x : Int64} (j : Nat) (hd : decode M.2.1 pc = .ok (.lload_n n, 1)) (hi : (n : Nat) = i) (hl : L[j]? = some (i, zJ x)) (k : ab_G g M d bc bs (pc + 1) L (zJ x :: st) w Q) : ab_G g M d bc bs pc L st w Q := ab_step k (ab_p0 ab_okJ) fun _ _ _ _ _ _ _ _ _ _ _ _ _ _ _ _ hx hb _ _ _ ha kk => lv_lload_n hx hb hd hi (ha _ _ (List.mem_of_getElem? hl)) kk
theorem ab_lload {i : Nat} {x : Int64} (j : Nat) (hd : decode M.2.1 pc = .ok (.lload i, 2)) (hl : L[j]? = some (i, zJ x)) (k : ab_G g M d bc bs (pc + 2) L (zJ x :: st) w Q) : ab_G g M d bc bs pc L st w Q := ab_step k (ab_p0 ab_okJ) fun _ _ _ _ _ _ _ _ _ _ _ _ _ _ _ _ hx hb _ _ _ ha kk => lv_lload hx hb hd (ha _ _ (List.mem_of_getElem? hl)) kk
theorem ab_dload_n {n : Fin 4} {i : Nat} {x : UInt64} (j : Nat) (hd : decode M.2.1 pc = .ok (.dload_n n, 1)) (hi : (n : Nat) = i) (hl : L[j]? = some (i, zD x)) (k : ab_G g M d bc bs (pc + 1) L (zD x :: st) w Q) : ab_G g M d bc bs pc L st w Q := ab_step k (ab_p0 ab_okD) fun _ _ _ _ _ _ _ _ _ _ _ _ _ _ _ _ hx hb _ _ _ ha kk => lv_dload_n hx hb hd hi (ha _ _ (List.mem_of_getElem? hl)) kk
theorem ab_dload {i : Nat} {x : UInt64} (j : Nat) (hd : decode M.2.1 pc = .ok (.dload i, 2)) (hl : L[j]? = some (i, zD x)) (k : ab_G g M d bc bs (pc + 2) L (zD x :: st) w Q) : ab_G g M d bc bs pc L st w Q := ab_step k (ab_p0 ab_okD) fun _ _ _ _ _ _ _ _ _ _ _ _ _ _ _ _ hx hb _ _ _ ha kk => lv_dload hx hb hd (ha _ _ (List.mem_of_getElem? hl)) kk
theorem ab_aload_n {n : Fin 4} {i a b : Nat} (j : Nat) (hd : decode M.2.1 pc = .ok (.aload_n n, 1)) (hi : (n : Nat) = i) (hl : L[j]? = some (i, zR a b)) (k : ab_G g M d bc bs (pc + 1) L (zR a b :: st) w Q) : ab_G g M d bc bs pc L st w Q := ab_step k (ab_pL (List.mem_of_getElem? hl)) fun _ _ _ _ _ _ _ _ _ _ _ _ _ _ _ _ hx hb _ _ _ ha kk => lv_aload_n hx hb hd hi (ha _ _ (List.mem_of_getElem? hl)) kk
theorem ab_aload {i a b : Nat} (j : Nat) (hd : decode M.2.1 pc = .ok (.aload i, 2)) (hl : L[j]? = some (i, zR a b)) (k : ab_G g M d bc bs (pc + 2) L (zR a b :: st) w Q) : ab_G g M d bc bs pc L st w Q := ab_step k (ab_pL (List.mem_of_getElem? hl)) fun _ _ _ _ _ _ _ _ _ _ _ _ _ _ _ _ hx hb _ _ _ ha kk => lv_aload hx hb hd (ha _ _ (List.mem_of_getElem? hl)) kk
theorem ab_iadd {x y : Int32} (hd : decode M.2.1 pc = .ok (.iadd, 1)) (k : ab_G g M d bc bs (pc + 1) L (zI (x + y) :: st) w Q) : ab_G g M d bc bs pc L (zI y :: zI x :: st) w Q := ab_step k (ab_p2 ab_okI) fun _ _ _ _ _ _ _ _ _ _ _ _ _ _ _ _ hx hb _ _ _ _ kk => lv_iadd hx hb hd kk
theorem ab_isub {x y : Int32} (hd : decode M.2.1 pc = .ok (.isub, 1)) (k : ab_G g M d bc bs (pc + 1) L (zI (x - y) :: st) w Q) : ab_G g M d bc bs pc L (zI y :: zI x :: st) w Q := ab_step k (ab_p2 ab_okI) fun _ _ _ _ _ _ _ _ _ _ _ _ _ _ _ _ hx hb _ _ _ _ kk => lv_isub hx hb hd kk
theorem ab_imul {x y : Int32} (hd : decode M.2.1 pc = .ok (.imul, 1)) (k : ab_G g M d bc bs (pc + 1) L (zI (x * y) :: st) w Q) : ab_G g M d bc bs pc L (zI y :: zI x :: st) w Q := ab_step k (ab_p2 ab_okI) fun _ _ _ _ _ _ _ _ _ _ _ _ _ _ _ _ hx hb _ _ _ _ kk => lv_imul hx hb hd kk
theorem ab_iand {x y : Int32} (hd : decode M.2.1 pc = .ok (.iand, 1)) (k : ab_G g M d bc bs (pc + 1) L (zI (x &&& y) :: st) w Q) : ab_G g M d bc bs pc L (zI y :: zI x :: st) w Q := ab_step k (ab_p2 ab_okI) fun _ _ _ _ _ _ _ _ _ _ _ _ _ _ _ _ hx hb _ _ _ _ kk => lv_iand hx hb hd kk
theorem ab_ior {x y : Int32} (hd : decode M.2.1 pc = .ok (.ior, 1)) (k : ab_G g M d bc bs (pc + 1) L (zI (x ||| y) :: st) w Q) : ab_G g M d bc bs pc L (zI y :: zI x :: st) w Q := ab_step k (ab_p2 ab_okI) fun _ _ _ _ _ _ _ _ _ _ _ _ _ _ _ _ hx hb _ _ _ _ kk => lv_ior hx hb hd kk
theorem ab_ishl {x y : Int32} (hd : decode M.2.1 pc = .ok (.ishl, 1)) (k : ab_G g M d bc bs (pc + 1) L (zI (x <<< (y &&& 31)) :: st) w Q) : ab_G g M d bc bs pc L (zI y :: zI x :: st) w Q := ab_step k (ab_p2 ab_okI) fun _ _ _ _ _ _ _ _ _ _ _ _ _ _ _ _ hx hb _ _ _ _ kk => lv_ishl hx hb hd kk
theorem ab_ishr {x y : Int32} (hd : decode M.2.1 pc = .ok (.ishr, 1)) (k : ab_G g M d bc bs (pc + 1) L (zI (x >>> (y &&& 31)) :: st) w Q) : ab_G g M d bc bs pc L (zI y :: zI x :: st) w Q := ab_step k (ab_p2 ab_okI) fun _ _ _ _ _ _ _ _ _ _ _ _ _ _ _ _ hx hb _ _ _ _ kk => lv_ishr hx hb hd kk
theorem ab_ineg {x : Int32} (hd : decode M.2.1 pc = .ok (.ineg, 1)) (k : ab_G g M d bc bs (pc + 1) L (zI (-x) :: st) w Q) : ab_G g M d bc bs pc L (zI x :: st) w Q := ab_step k (ab_p1 ab_okI) fun _ _ _ _ _ _ _ _ _ _ _ _ _ _ _ _ hx hb _ _ _ _ kk => lv_ineg hx hb hd kk
theorem ab_irem {x y : Int32} (hd : decode M.2.1 pc = .ok (.irem, 1)) (hne : ¬ y = 0) (k : ab_G g M d bc bs (pc + 1) L (zI (x - x / y * y) :: st) w Q) : ab_G g M d bc bs pc L (zI y :: zI x :: st) w Q := ab_step k (ab_p2 ab_okI) fun _ _ _ _ _ _ _ _ _ _ _ _ _ _ _ _ hx hb _ _ _ _ kk => lv_irem hx hb hd hne kk
theorem ab_ladd {x y : Int64} (hd : decode M.2.1 pc = .ok (.ladd, 1)) (k : ab_G g M d bc bs (pc + 1) L (zJ (x + y) :: st) w Q) : ab_G g M d bc bs pc L (zJ y :: zJ x :: st) w Q := ab_step k (ab_p2 ab_okJ) fun _ _ _ _ _ _ _ _ _ _ _ _ _ _ _ _ hx hb _ _ _ _ kk => lv_ladd hx hb hd kk
theorem ab_lsub {x y : Int64} (hd : decode M.2.1 pc = .ok (.lsub, 1)) (k : ab_G g M d bc bs (pc + 1) L (zJ (x - y) :: st) w Q) : ab_G g M d bc bs pc L (zJ y :: zJ x :: st) w Q := ab_step k (ab_p2 ab_okJ) fun _ _ _ _ _ _ _ _ _ _ _ _ _ _ _ _ hx hb _ _ _ _ kk => lv_lsub hx hb hd kk
theorem ab_lmul {x y : Int64} (hd : decode M.2.1 pc = .ok (.lmul, 1)) (k : ab_G g M d bc bs (pc + 1) L (zJ (x * y) :: st) w Q) : ab_G g M d bc bs pc L (zJ y :: zJ x :: st) w Q := ab_step k (ab_p2 ab_okJ) fun _ _ _ _ _ _ _ _ _ _ _ _ _ _ _ _ hx hb _ _ _ _ kk => lv_lmul hx hb hd kk
theorem ab_lneg {x : Int64} (hd : decode M.2.1 pc = .ok (.lneg, 1)) (k : ab_G g M d bc bs (pc + 1) L (zJ (-x) :: st) w Q) : ab_G g M d bc bs pc L (zJ x :: st) w Q := ab_step k (ab_p1 ab_okJ) fun _ _ _ _ _ _ _ _ _ _ _ _ _ _ _ _ hx hb _ _ _ _ kk => lv_lneg hx hb hd kk
theorem ab_ldiv {x y : Int64} (hd : decode M.2.1 pc = .ok (.ldiv, 1)) (hne : ¬ y = 0) (k : ab_G g M d bc bs (pc + 1) L (zJ (x / y) :: st) w Q) : ab_G g M d bc bs pc L (zJ y :: zJ x :: st) w Q := ab_step k (ab_p2 ab_okJ) fun _ _ _ _ _ _ _ _ _ _ _ _ _ _ _ _ hx hb _ _ _ _ kk => lv_ldiv hx hb hd hne kk
theorem ab_lrem {x y : Int64} (hd : decode M.2.1 pc = .ok (.lrem, 1)) (hne : ¬ y = 0) (k : ab_G g M d bc bs (pc + 1) L (zJ (x - x / y * y) :: st) w Q) : ab_G g M d bc bs pc L (zJ y :: zJ x :: st) w Q := ab_step k (ab_p2 ab_okJ) fun _ _ _ _ _ _ _ _ _ _ _ _ _ _ _ _ hx hb _ _ _ _ kk => lv_lrem hx hb hd hne kk
theorem ab_lshl {x : Int64} {y : Int32} (hd : decode M.2.1 pc = .ok (.lshl, 1)) (k : ab_G g M d bc bs (pc + 1) L (zJ (x <<< (y.toInt64 &&& 63)) :: st) w Q) : ab_G g M d bc bs pc L (zI y :: zJ x :: st) w Q := ab_step k (ab_p2 ab_okJ) fun _ _ _ _ _ _ _ _ _ _ _ _ _ _ _ _ hx hb _ _ _ _ kk => lv_lshl hx hb hd rfl kk
theorem ab_lcmp {x y : Int64} (hd : decode M.2.1 pc = .ok (.lcmp, 1)) (k : ab_G g M d bc bs (pc + 1) L (zI (lg_cmp x y) :: st) w Q) : ab_G g M d bc bs pc L (zJ y :: zJ x :: st) w Q := ab_step k (ab_p2 ab_okI) fun _ _ _ _ _ _ _ _ _ _ _ _ _ _ _ _ hx hb _ _ _ _ kk => W.lcmp hx hb hd kk
theorem ab_l2i {x : Int64} (hd : decode M.2.1 pc = .ok (.l2i, 1)) (k : ab_G g M d bc bs (pc + 1) L (zI x.toInt32 :: st) w Q) : ab_G g M d bc bs pc L (zJ x :: st) w Q := ab_step k (ab_p1 ab_okI) fun _ _ _ _ _ _ _ _ _ _ _ _ _ _ _ _ hx hb _ _ _ _ kk => lv_l2i hx hb hd rfl kk
theorem ab_i2l {x : Int32} (hd : decode M.2.1 pc = .ok (.i2l, 1)) (k : ab_G g M d bc bs (pc + 1) L (zJ x.toInt64 :: st) w Q) : ab_G g M d bc bs pc L (zI x :: st) w Q := ab_step k (ab_p1 ab_okJ) fun _ _ _ _ _ _ _ _ _ _ _ _ _ _ _ _ hx hb _ _ _ _ kk => lv_i2l hx hb hd rfl kk
theorem ab_i2b {x : Int32} (hd : decode M.2.1 pc = .ok (.i2b, 1)) (k : ab_G g M d bc bs (pc + 1) L (zI x.toInt8.toInt32 :: st) w Q) : ab_G g M d bc bs pc L (zI x :: st) w Q := ab_step k (ab_p1 ab_okI) fun _ _ _ _ _ _ _ _ _ _ _ _ _ _ _ _ hx hb _ _ _ _ kk => lv_i2b hx hb hd rfl kk
theorem ab_i2d {x : Int32} (hd : decode M.2.1 pc = .ok (.i2d, 1)) (k : ab_G g M d bc bs (pc + 1) L (zD (FP.i2d x) :: st) w Q) : ab_G g M d bc bs pc L (zI x :: st) w Q := ab_step k (ab_p1 ab_okD) fun _ _ _ _ _ _ _ _ _ _ _ _ _ _ _ _ hx hb _ _ _ _ kk => lv_i2d hx hb hd kk
theorem ab_l2d {x : Int64} (hd : decode M.2.1 pc = .ok (.l2d, 1)) (k : ab_G g M d bc bs (pc + 1) L (zD (FP.l2d x) :: st) w Q) : ab_G g M d bc bs pc L (zJ x :: st) w Q := ab_step k (ab_p1 ab_okD) fun _ _ _ _ _ _ _ _ _ _ _ _ _ _ _ _ hx hb _ _ _ _ kk => lv_l2d hx hb hd kk
theorem ab_d2l {x : UInt64} (hd : decode M.2.1 pc = .ok (.d2l, 1)) (k : ab_G g M d bc bs (pc + 1) L (zJ (FP.d2l x) :: st) w Q) : ab_G g M d bc bs pc L (zD x :: st) w Q := ab_step k (ab_p1 ab_okJ) fun _ _ _ _ _ _ _ _ _ _ _ _ _ _ _ _ hx hb _ _ _ _ kk => lv_d2l hx hb hd kk
theorem ab_dmul {x y : UInt64} (hd : decode M.2.1 pc = .ok (.dmul, 1)) (hne : vf_n64 (FP.dmul x y)) (k : ab_G g M d bc bs (pc + 1) L (zD (FP.dmul x y) :: st) w Q) : ab_G g M d bc bs pc L (zD y :: zD x :: st) w Q := ab_step k (ab_p2 ab_okD) fun _ _ _ _ _ _ _ _ _ _ _ _ _ _ _ _ hx hb _ _ _ _ kk => lv_dmul hx hb hd hne kk
theorem ab_ddiv {x y : UInt64} (hd : decode M.2.1 pc = .ok (.ddiv, 1)) (hne : vf_n64 (FP.ddiv x y)) (k : ab_G g M d bc bs (pc + 1) L (zD (FP.ddiv x y) :: st) w Q) : ab_G g M d bc bs pc L (zD y :: zD x :: st) w Q := ab_step k (ab_p2 ab_okD) fun _ _ _ _ _ _ _ _ _ _ _ _ _ _ _ _ hx hb _ _ _ _ kk => lv_ddiv hx hb hd hne kk
theorem ab_dcmp {x y : UInt64} {op : CmpOp} (hd : decode M.2.1 pc = .ok (.dcmp op, 1)) (k : ab_G g M d bc bs (pc + 1) L (zI (Op.cmpValue (FP.dcmp x y) op) :: st) w Q) : ab_G g M d bc bs pc L (zD y :: zD x :: st) w Q := ab_step k (ab_p2 ab_okI) fun _ _ _ _ _ _ _ _ _ _ _ _ _ _ _ _ hx hb _ _ _ _ kk => lv_dcmp hx hb hd kk
theorem ab_dup {v : ab_V} (hd : decode M.2.1 pc = .ok (.dup, 1)) (hv : ab_cat v = 1) (k : ab_G g M d bc bs (pc + 1) L (v :: v :: st) w Q) : ab_G g M d bc bs pc L (v :: st) w Q := ab_step k (ab_pd) fun _ _ _ _ _ _ _ _ _ _ _ _ _ _ _ _ hx hb _ _ _ _ kk => lv_dup hx hb hd (by rw [ab_cat_vl]; exact hv) kk
theorem ab_dup2_2 {v : ab_V} (hd : decode M.2.1 pc = .ok (.dup2, 1)) (hv : ab_cat v = 2) (k : ab_G g M d bc bs (pc + 1) L (v :: v :: st) w Q) : ab_G g M d bc bs pc L (v :: st) w Q := ab_step k (ab_pd) fun _ _ _ _ _ _ _ _ _ _ _ _ _ _ _ _ hx hb _ _ _ _ kk => lv_dup2_2 hx hb hd (by rw [ab_cat_vl]; exact hv) kk
theorem ab_dup2_11 {u v : ab_V} (hd : decode M.2.1 pc = .ok (.dup2, 1)) (hv : ab_cat u = 1) (hv2 : ab_cat v = 1) (k : ab_G g M d bc bs (pc + 1) L (u :: v :: u :: v :: st) w Q) : ab_G g M d bc bs pc L (u :: v :: st) w Q := ab_step k (ab_pd2) fun _ _ _ _ _ _ _ _ _ _ _ _ _ _ _ _ hx hb _ _ _ _ kk => lv_dup2_11 hx hb hd (by rw [ab_cat_vl]; exact hv) (by rw [ab_cat_vl]; exact hv2) kk
theorem ab_pop {v : ab_V} (hd : decode M.2.1 pc = .ok (.pop, 1)) (hv : ab_cat v = 1) (k : ab_G g M d bc bs (pc + 1) L st w Q) : ab_G g M d bc bs pc L (v :: st) w Q := ab_step k (ab_q1) fun _ _ _ _ _ _ _ _ _ _ _ _ _ _ _ _ hx hb _ _ _ _ kk => lv_pop hx hb hd (by rw [ab_cat_vl]; exact hv) kk
theorem ab_goto {off : Int} {tgt : Nat} (hd : decode M.2.1 pc = .ok (.goto off, 3)) (ht : (pc : Int) + off = (tgt : Int)) (k : ab_G g M d bc bs tgt L st w Q) : ab_G g M d bc bs pc L st w Q := ab_step k ab_q0 fun _ _ _ _ _ _ _ _ _ _ _ _ _ _ _ _ hx hb _ _ _ _ kk => lv_goto hx hb hd ht kk
theorem ab_if_eq {x : Int32} {off : Int} {tgt : Nat} (hd : decode M.2.1 pc = .ok (.ifCond .eq off, 3)) (ht : (pc : Int) + off = (tgt : Int)) (kt : x = 0 → ab_G g M d bc bs tgt L st w Q) (kf : ¬ x = 0 → ab_G g M d bc bs (pc + 3) L st w Q) : ab_G g M d bc bs pc L (zI x :: st) w Q := by
  intro Z p e R s m args below meth c mc ms X φ0 w0 φ H locs cells slots ls F
  obtain ⟨f1, f2, f3, f4, f5, f6, f7⟩ := F
  exact lv_if_eq X.1 X.2.1 hd ht (fun h => kt h Z p e R s m args below meth c mc ms X φ0 w0 φ H locs cells slots ls ⟨f1, f2, f3, f4, f5, f6, ab_q1 f6 f7⟩) (fun h => kf h Z p e R s m args below meth c mc ms X φ0 w0 φ H locs cells slots ls ⟨f1, f2, f3, f4, f5, f6, ab_q1 f6 f7⟩)
theorem ab_icmp_eq {x y : Int32} {off : Int} {tgt : Nat} (hd : decode M.2.1 pc = .ok (.if_icmp .eq off, 3)) (ht : (pc : Int) + off = (tgt : Int)) (kt : x = y → ab_G g M d bc bs tgt L st w Q) (kf : ¬ x = y → ab_G g M d bc bs (pc + 3) L st w Q) : ab_G g M d bc bs pc L (zI y :: zI x :: st) w Q := by
  intro Z p e R s m args below meth c mc ms X φ0 w0 φ H locs cells slots ls F
  obtain ⟨f1, f2, f3, f4, f5, f6, f7⟩ := F
  exact lv_icmp_eq X.1 X.2.1 hd ht (fun h => kt h Z p e R s m args below meth c mc ms X φ0 w0 φ H locs cells slots ls ⟨f1, f2, f3, f4, f5, f6, ab_q2 f6 f7⟩) (fun h => kf h Z p e R s m args below meth c mc ms X φ0 w0 φ H locs cells slots ls ⟨f1, f2, f3, f4, f5, f6, ab_q2 f6 f7⟩)
theorem ab_if_ne {x : Int32} {off : Int} {tgt : Nat} (hd : decode M.2.1 pc = .ok (.ifCond .ne off, 3)) (ht : (pc : Int) + off = (tgt : Int)) (kt : ¬ x = 0 → ab_G g M d bc bs tgt L st w Q) (kf : x = 0 → ab_G g M d bc bs (pc + 3) L st w Q) : ab_G g M d bc bs pc L (zI x :: st) w Q := by
  intro Z p e R s m args below meth c mc ms X φ0 w0 φ H locs cells slots ls F
  obtain ⟨f1, f2, f3, f4, f5, f6, f7⟩ := F
  exact lv_if_ne X.1 X.2.1 hd ht (fun h => kt h Z p e R s m args below meth c mc ms X φ0 w0 φ H locs cells slots ls ⟨f1, f2, f3, f4, f5, f6, ab_q1 f6 f7⟩) (fun h => kf h Z p e R s m args below meth c mc ms X φ0 w0 φ H locs cells slots ls ⟨f1, f2, f3, f4, f5, f6, ab_q1 f6 f7⟩)
theorem ab_icmp_ne {x y : Int32} {off : Int} {tgt : Nat} (hd : decode M.2.1 pc = .ok (.if_icmp .ne off, 3)) (ht : (pc : Int) + off = (tgt : Int)) (kt : ¬ x = y → ab_G g M d bc bs tgt L st w Q) (kf : x = y → ab_G g M d bc bs (pc + 3) L st w Q) : ab_G g M d bc bs pc L (zI y :: zI x :: st) w Q := by
  intro Z p e R s m args below meth c mc ms X φ0 w0 φ H locs cells slots ls F
  obtain ⟨f1, f2, f3, f4, f5, f6, f7⟩ := F
  exact lv_icmp_ne X.1 X.2.1 hd ht (fun h => kt h Z p e R s m args below meth c mc ms X φ0 w0 φ H locs cells slots ls ⟨f1, f2, f3, f4, f5, f6, ab_q2 f6 f7⟩) (fun h => kf h Z p e R s m args below meth c mc ms X φ0 w0 φ H locs cells slots ls ⟨f1, f2, f3, f4, f5, f6, ab_q2 f6 f7⟩)
theorem ab_if_lt {x : Int32} {off : Int} {tgt : Nat} (hd : decode M.2.1 pc = .ok (.ifCond .lt off, 3)) (ht : (pc : Int) + off = (tgt : Int)) (kt : x < 0 → ab_G g M d bc bs tgt L st w Q) (kf : ¬ x < 0 → ab_G g M d bc bs (pc + 3) L st w Q) : ab_G g M d bc bs pc L (zI x :: st) w Q := by
  intro Z p e R s m args below meth c mc ms X φ0 w0 φ H locs cells slots ls F
  obtain ⟨f1, f2, f3, f4, f5, f6, f7⟩ := F
  exact lv_if_lt X.1 X.2.1 hd ht (fun h => kt h Z p e R s m args below meth c mc ms X φ0 w0 φ H locs cells slots ls ⟨f1, f2, f3, f4, f5, f6, ab_q1 f6 f7⟩) (fun h => kf h Z p e R s m args below meth c mc ms X φ0 w0 φ H locs cells slots ls ⟨f1, f2, f3, f4, f5, f6, ab_q1 f6 f7⟩)
theorem ab_icmp_lt {x y : Int32} {off : Int} {tgt : Nat} (hd : decode M.2.1 pc = .ok (.if_icmp .lt off, 3)) (ht : (pc : Int) + off = (tgt : Int)) (kt : x < y → ab_G g M d bc bs tgt L st w Q) (kf : ¬ x < y → ab_G g M d bc bs (pc + 3) L st w Q) : ab_G g M d bc bs pc L (zI y :: zI x :: st) w Q := by
  intro Z p e R s m args below meth c mc ms X φ0 w0 φ H locs cells slots ls F
  obtain ⟨f1, f2, f3, f4, f5, f6, f7⟩ := F
  exact lv_icmp_lt X.1 X.2.1 hd ht (fun h => kt h Z p e R s m args below meth c mc ms X φ0 w0 φ H locs cells slots ls ⟨f1, f2, f3, f4, f5, f6, ab_q2 f6 f7⟩) (fun h => kf h Z p e R s m args below meth c mc ms X φ0 w0 φ H locs cells slots ls ⟨f1, f2, f3, f4, f5, f6, ab_q2 f6 f7⟩)
theorem ab_if_ge {x : Int32} {off : Int} {tgt : Nat} (hd : decode M.2.1 pc = .ok (.ifCond .ge off, 3)) (ht : (pc : Int) + off = (tgt : Int)) (kt : 0 ≤ x → ab_G g M d bc bs tgt L st w Q) (kf : ¬ 0 ≤ x → ab_G g M d bc bs (pc + 3) L st w Q) : ab_G g M d bc bs pc L (zI x :: st) w Q := by
  intro Z p e R s m args below meth c mc ms X φ0 w0 φ H locs cells slots ls F
  obtain ⟨f1, f2, f3, f4, f5, f6, f7⟩ := F
  exact lv_if_ge X.1 X.2.1 hd ht (fun h => kt h Z p e R s m args below meth c mc ms X φ0 w0 φ H locs cells slots ls ⟨f1, f2, f3, f4, f5, f6, ab_q1 f6 f7⟩) (fun h => kf h Z p e R s m args below meth c mc ms X φ0 w0 φ H locs cells slots ls ⟨f1, f2, f3, f4, f5, f6, ab_q1 f6 f7⟩)
theorem ab_icmp_ge {x y : Int32} {off : Int} {tgt : Nat} (hd : decode M.2.1 pc = .ok (.if_icmp .ge off, 3)) (ht : (pc : Int) + off = (tgt : Int)) (kt : y ≤ x → ab_G g M d bc bs tgt L st w Q) (kf : ¬ y ≤ x → ab_G g M d bc bs (pc + 3) L st w Q) : ab_G g M d bc bs pc L (zI y :: zI x :: st) w Q := by
  intro Z p e R s m args below meth c mc ms X φ0 w0 φ H locs cells slots ls F
  obtain ⟨f1, f2, f3, f4, f5, f6, f7⟩ := F
  exact lv_icmp_ge X.1 X.2.1 hd ht (fun h => kt h Z p e R s m args below meth c mc ms X φ0 w0 φ H locs cells slots ls ⟨f1, f2, f3, f4, f5, f6, ab_q2 f6 f7⟩) (fun h => kf h Z p e R s m args below meth c mc ms X φ0 w0 φ H locs cells slots ls ⟨f1, f2, f3, f4, f5, f6, ab_q2 f6 f7⟩)
theorem ab_if_gt {x : Int32} {off : Int} {tgt : Nat} (hd : decode M.2.1 pc = .ok (.ifCond .gt off, 3)) (ht : (pc : Int) + off = (tgt : Int)) (kt : 0 < x → ab_G g M d bc bs tgt L st w Q) (kf : ¬ 0 < x → ab_G g M d bc bs (pc + 3) L st w Q) : ab_G g M d bc bs pc L (zI x :: st) w Q := by
  intro Z p e R s m args below meth c mc ms X φ0 w0 φ H locs cells slots ls F
  obtain ⟨f1, f2, f3, f4, f5, f6, f7⟩ := F
  exact lv_if_gt X.1 X.2.1 hd ht (fun h => kt h Z p e R s m args below meth c mc ms X φ0 w0 φ H locs cells slots ls ⟨f1, f2, f3, f4, f5, f6, ab_q1 f6 f7⟩) (fun h => kf h Z p e R s m args below meth c mc ms X φ0 w0 φ H locs cells slots ls ⟨f1, f2, f3, f4, f5, f6, ab_q1 f6 f7⟩)
theorem ab_icmp_gt {x y : Int32} {off : Int} {tgt : Nat} (hd : decode M.2.1 pc = .ok (.if_icmp .gt off, 3)) (ht : (pc : Int) + off = (tgt : Int)) (kt : y < x → ab_G g M d bc bs tgt L st w Q) (kf : ¬ y < x → ab_G g M d bc bs (pc + 3) L st w Q) : ab_G g M d bc bs pc L (zI y :: zI x :: st) w Q := by
  intro Z p e R s m args below meth c mc ms X φ0 w0 φ H locs cells slots ls F
  obtain ⟨f1, f2, f3, f4, f5, f6, f7⟩ := F
  exact lv_icmp_gt X.1 X.2.1 hd ht (fun h => kt h Z p e R s m args below meth c mc ms X φ0 w0 φ H locs cells slots ls ⟨f1, f2, f3, f4, f5, f6, ab_q2 f6 f7⟩) (fun h => kf h Z p e R s m args below meth c mc ms X φ0 w0 φ H locs cells slots ls ⟨f1, f2, f3, f4, f5, f6, ab_q2 f6 f7⟩)
theorem ab_if_le {x : Int32} {off : Int} {tgt : Nat} (hd : decode M.2.1 pc = .ok (.ifCond .le off, 3)) (ht : (pc : Int) + off = (tgt : Int)) (kt : x ≤ 0 → ab_G g M d bc bs tgt L st w Q) (kf : ¬ x ≤ 0 → ab_G g M d bc bs (pc + 3) L st w Q) : ab_G g M d bc bs pc L (zI x :: st) w Q := by
  intro Z p e R s m args below meth c mc ms X φ0 w0 φ H locs cells slots ls F
  obtain ⟨f1, f2, f3, f4, f5, f6, f7⟩ := F
  exact lv_if_le X.1 X.2.1 hd ht (fun h => kt h Z p e R s m args below meth c mc ms X φ0 w0 φ H locs cells slots ls ⟨f1, f2, f3, f4, f5, f6, ab_q1 f6 f7⟩) (fun h => kf h Z p e R s m args below meth c mc ms X φ0 w0 φ H locs cells slots ls ⟨f1, f2, f3, f4, f5, f6, ab_q1 f6 f7⟩)
theorem ab_icmp_le {x y : Int32} {off : Int} {tgt : Nat} (hd : decode M.2.1 pc = .ok (.if_icmp .le off, 3)) (ht : (pc : Int) + off = (tgt : Int)) (kt : x ≤ y → ab_G g M d bc bs tgt L st w Q) (kf : ¬ x ≤ y → ab_G g M d bc bs (pc + 3) L st w Q) : ab_G g M d bc bs pc L (zI y :: zI x :: st) w Q := by
  intro Z p e R s m args below meth c mc ms X φ0 w0 φ H locs cells slots ls F
  obtain ⟨f1, f2, f3, f4, f5, f6, f7⟩ := F
  exact lv_icmp_le X.1 X.2.1 hd ht (fun h => kt h Z p e R s m args below meth c mc ms X φ0 w0 φ H locs cells slots ls ⟨f1, f2, f3, f4, f5, f6, ab_q2 f6 f7⟩) (fun h => kf h Z p e R s m args below meth c mc ms X φ0 w0 φ H locs cells slots ls ⟨f1, f2, f3, f4, f5, f6, ab_q2 f6 f7⟩)
theorem ab_tableOut {dflt lo hi : Int} {offs : Array Int} {len : Nat} {x : Int32} {tgt : Nat} (hd : decode M.2.1 pc = .ok (.tableswitch dflt lo hi offs, len)) (h : x.toInt < lo ∨ hi < x.toInt) (ht : (pc : Int) + dflt = (tgt : Int)) (k : ab_G g M d bc bs tgt L st w Q) : ab_G g M d bc bs pc L (zI x :: st) w Q := ab_step k ab_q1 fun _ _ _ _ _ _ _ _ _ _ _ _ _ _ _ _ hx hb _ _ _ _ kk => lv_tableOut hx hb hd h ht kk
theorem ab_tableIn {dflt lo hi : Int} {offs : Array Int} {len : Nat} {x : Int32} {off : Int} {tgt : Nat} (hd : decode M.2.1 pc = .ok (.tableswitch dflt lo hi offs, len)) (h1 : ¬ x.toInt < lo) (h2 : ¬ hi < x.toInt) (ho : offs[(x.toInt - lo).toNat]? = some off) (ht : (pc : Int) + off = (tgt : Int)) (k : ab_G g M d bc bs tgt L st w Q) : ab_G g M d bc bs pc L (zI x :: st) w Q := ab_step k ab_q1 fun _ _ _ _ _ _ _ _ _ _ _ _ _ _ _ _ hx hb _ _ _ _ kk => lv_tableIn hx hb hd h1 h2 ho ht kk
def ab_f1 (i : Nat) (q : Nat × ab_V) : Bool := !(q.1 == i) && !(q.1 + 1 == i && ab_cat q.2 == 2)
def ab_f2 (i : Nat) (q : Nat × ab_V) : Bool := !(q.1 == i) && (!(q.1 == i + 1) && !(q.1 + 1 == i && ab_cat q.2 == 2))
theorem ab_fm1 (φ : Nat → Nat → Nat) (i : Nat) (v : ab_V) {L L' : List (Nat × ab_V)} (h : (i, v) :: L.filter (ab_f1 i) = L') : (i, ab_vl φ v) :: (L.map (fun q => (q.1, ab_vl φ q.2))).filter (fun q => !(q.1 == i) && !(q.1 + 1 == i && q.2.category == 2)) = L'.map (fun q => (q.1, ab_vl φ q.2)) := by
  rw [← h, List.map_cons, List.filter_map]
  congr 3
  funext q
  show (!(q.1 == i) && !(q.1 + 1 == i && (ab_vl φ q.2).category == 2)) = ab_f1 i q
  rw [ab_cat_vl]; rfl
theorem ab_fm2 (φ : Nat → Nat → Nat) (i : Nat) (v : ab_V) {L L' : List (Nat × ab_V)} (h : (i, v) :: L.filter (ab_f2 i) = L') : (i, ab_vl φ v) :: (L.map (fun q => (q.1, ab_vl φ q.2))).filter (fun q => !(q.1 == i) && (!(q.1 == i + 1) && !(q.1 + 1 == i && q.2.category == 2))) = L'.map (fun q => (q.1, ab_vl φ q.2)) := by
  rw [← h, List.map_cons, List.filter_map]
  congr 3
  funext q
  show (!(q.1 == i) && (!(q.1 == i + 1) && !(q.1 + 1 == i && (ab_vl φ q.2).category == 2))) = ab_f2 i q
  rw [ab_cat_vl]; rfl
theorem ab_fok {w : ab_W} {f : Nat × ab_V → Bool} {i : Nat} {v : ab_V} {L L' : List (Nat × ab_V)} (h : (i, v) :: L.filter f = L') (hv : ab_ok w v) (hL : ∀ q ∈ L, ab_ok w q.2) : ∀ q ∈ L', ab_ok w q.2 := by
  intro q hq
  rw [← h] at hq
  rcases List.mem_cons.mp hq with rfl | hq
  · exact hv
  · exact hL q (List.mem_filter.mp hq).1
theorem ab_istore_n {n : Fin 4} {i : Nat} {x : Int32} {L' : List (Nat × ab_V)} (hd : decode M.2.1 pc = .ok (.istore_n n, 1)) (hi : (n : Nat) = i) (hn : i < M.2.2.1) (hl : (i, zI x) :: L.filter (ab_f1 i) = L') (k : ab_G g M d bc bs (pc + 1) L' st w Q) : ab_G g M d bc bs pc L (zI x :: st) w Q := by
  intro Z p e R s m args below meth c mc ms X φ0 w0 φ H locs cells slots ls F
  obtain ⟨f1, f2, f3, f4, f5, f6, f7⟩ := F
  exact lv_istore_n X.1 X.2.1 hd hi f5 hn (ab_fm1 φ i (zI x) hl) (fun ls9 h9 => k Z p e R s m args below meth c mc ms X φ0 w0 φ H locs cells slots ls9 ⟨f1, f2, f3, f4, h9, ab_fok hl (f7 _ List.mem_cons_self) f6, ab_q1 f6 f7⟩)
theorem ab_istore {i : Nat} {x : Int32} {L' : List (Nat × ab_V)} (hd : decode M.2.1 pc = .ok (.istore i, 2)) (hn : i < M.2.2.1) (hl : (i, zI x) :: L.filter (ab_f1 i) = L') (k : ab_G g M d bc bs (pc + 2) L' st w Q) : ab_G g M d bc bs pc L (zI x :: st) w Q := by
  intro Z p e R s m args below meth c mc ms X φ0 w0 φ H locs cells slots ls F
  obtain ⟨f1, f2, f3, f4, f5, f6, f7⟩ := F
  exact lv_istore X.1 X.2.1 hd f5 hn (ab_fm1 φ i (zI x) hl) (fun ls9 h9 => k Z p e R s m args below meth c mc ms X φ0 w0 φ H locs cells slots ls9 ⟨f1, f2, f3, f4, h9, ab_fok hl (f7 _ List.mem_cons_self) f6, ab_q1 f6 f7⟩)
theorem ab_lstore_n {n : Fin 4} {i : Nat} {x : Int64} {L' : List (Nat × ab_V)} (hd : decode M.2.1 pc = .ok (.lstore_n n, 1)) (hi : (n : Nat) = i) (hn : i + 1 < M.2.2.1) (hl : (i, zJ x) :: L.filter (ab_f2 i) = L') (k : ab_G g M d bc bs (pc + 1) L' st w Q) : ab_G g M d bc bs pc L (zJ x :: st) w Q := by
  intro Z p e R s m args below meth c mc ms X φ0 w0 φ H locs cells slots ls F
  obtain ⟨f1, f2, f3, f4, f5, f6, f7⟩ := F
  exact lv_lstore_n X.1 X.2.1 hd hi f5 hn (ab_fm2 φ i (zJ x) hl) (fun ls9 h9 => k Z p e R s m args below meth c mc ms X φ0 w0 φ H locs cells slots ls9 ⟨f1, f2, f3, f4, h9, ab_fok hl (f7 _ List.mem_cons_self) f6, ab_q1 f6 f7⟩)
theorem ab_lstore {i : Nat} {x : Int64} {L' : List (Nat × ab_V)} (hd : decode M.2.1 pc = .ok (.lstore i, 2)) (hn : i + 1 < M.2.2.1) (hl : (i, zJ x) :: L.filter (ab_f2 i) = L') (k : ab_G g M d bc bs (pc + 2) L' st w Q) : ab_G g M d bc bs pc L (zJ x :: st) w Q := by
  intro Z p e R s m args below meth c mc ms X φ0 w0 φ H locs cells slots ls F
  obtain ⟨f1, f2, f3, f4, f5, f6, f7⟩ := F
  exact lv_lstore X.1 X.2.1 hd f5 hn (ab_fm2 φ i (zJ x) hl) (fun ls9 h9 => k Z p e R s m args below meth c mc ms X φ0 w0 φ H locs cells slots ls9 ⟨f1, f2, f3, f4, h9, ab_fok hl (f7 _ List.mem_cons_self) f6, ab_q1 f6 f7⟩)
theorem ab_astore_n {n : Fin 4} {i : Nat} {x y : Nat} {L' : List (Nat × ab_V)} (hd : decode M.2.1 pc = .ok (.astore_n n, 1)) (hi : (n : Nat) = i) (hn : i < M.2.2.1) (hl : (i, zR x y) :: L.filter (ab_f1 i) = L') (k : ab_G g M d bc bs (pc + 1) L' st w Q) : ab_G g M d bc bs pc L (zR x y :: st) w Q := by
  intro Z p e R s m args below meth c mc ms X φ0 w0 φ H locs cells slots ls F
  obtain ⟨f1, f2, f3, f4, f5, f6, f7⟩ := F
  exact lv_astore_n X.1 X.2.1 hd hi f5 hn (ab_fm1 φ i (zR x y) hl) (fun ls9 h9 => k Z p e R s m args below meth c mc ms X φ0 w0 φ H locs cells slots ls9 ⟨f1, f2, f3, f4, h9, ab_fok hl (f7 _ List.mem_cons_self) f6, ab_q1 f6 f7⟩)
theorem ab_astore {i : Nat} {x y : Nat} {L' : List (Nat × ab_V)} (hd : decode M.2.1 pc = .ok (.astore i, 2)) (hn : i < M.2.2.1) (hl : (i, zR x y) :: L.filter (ab_f1 i) = L') (k : ab_G g M d bc bs (pc + 2) L' st w Q) : ab_G g M d bc bs pc L (zR x y :: st) w Q := by
  intro Z p e R s m args below meth c mc ms X φ0 w0 φ H locs cells slots ls F
  obtain ⟨f1, f2, f3, f4, f5, f6, f7⟩ := F
  exact lv_astore X.1 X.2.1 hd f5 hn (ab_fm1 φ i (zR x y) hl) (fun ls9 h9 => k Z p e R s m args below meth c mc ms X φ0 w0 φ H locs cells slots ls9 ⟨f1, f2, f3, f4, h9, ab_fok hl (f7 _ List.mem_cons_self) f6, ab_q1 f6 f7⟩)
theorem ab_dstore_n {n : Fin 4} {i : Nat} {x : UInt64} {L' : List (Nat × ab_V)} (hd : decode M.2.1 pc = .ok (.dstore_n n, 1)) (hi : (n : Nat) = i) (hn : i + 1 < M.2.2.1) (hl : (i, zD x) :: L.filter (ab_f2 i) = L') (k : ab_G g M d bc bs (pc + 1) L' st w Q) : ab_G g M d bc bs pc L (zD x :: st) w Q := by
  intro Z p e R s m args below meth c mc ms X φ0 w0 φ H locs cells slots ls F
  obtain ⟨f1, f2, f3, f4, f5, f6, f7⟩ := F
  exact lv_dstore_n X.1 X.2.1 hd hi f5 hn (ab_fm2 φ i (zD x) hl) (fun ls9 h9 => k Z p e R s m args below meth c mc ms X φ0 w0 φ H locs cells slots ls9 ⟨f1, f2, f3, f4, h9, ab_fok hl (f7 _ List.mem_cons_self) f6, ab_q1 f6 f7⟩)
theorem ab_dstore {i : Nat} {x : UInt64} {L' : List (Nat × ab_V)} (hd : decode M.2.1 pc = .ok (.dstore i, 2)) (hn : i + 1 < M.2.2.1) (hl : (i, zD x) :: L.filter (ab_f2 i) = L') (k : ab_G g M d bc bs (pc + 2) L' st w Q) : ab_G g M d bc bs pc L (zD x :: st) w Q := by
  intro Z p e R s m args below meth c mc ms X φ0 w0 φ H locs cells slots ls F
  obtain ⟨f1, f2, f3, f4, f5, f6, f7⟩ := F
  exact lv_dstore X.1 X.2.1 hd f5 hn (ab_fm2 φ i (zD x) hl) (fun ls9 h9 => k Z p e R s m args below meth c mc ms X φ0 w0 φ H locs cells slots ls9 ⟨f1, f2, f3, f4, h9, ab_fok hl (f7 _ List.mem_cons_self) f6, ab_q1 f6 f7⟩)
theorem ab_iinc {i : Nat} {n : Int} {x v : Int32} {L' : List (Nat × ab_V)} (j : Nat) (hd : decode M.2.1 pc = .ok (.iinc i n, 3)) (hj : L[j]? = some (i, zI x)) (hv : x + Int32.ofInt n = v) (hn : i < M.2.2.1) (hl : (i, zI v) :: L.filter (ab_f1 i) = L') (k : ab_G g M d bc bs (pc + 3) L' st w Q) : ab_G g M d bc bs pc L st w Q := by
  intro Z p e R s m args below meth c mc ms X φ0 w0 φ H locs cells slots ls F
  obtain ⟨f1, f2, f3, f4, f5, f6, f7⟩ := F
  exact lv_iinc X.1 X.2.1 hd f5 (k := j) (by rw [List.getElem?_map, hj]; rfl) hv hn (ab_fm1 φ i (zI v) hl) (fun ls9 h9 => k Z p e R s m args below meth c mc ms X φ0 w0 φ H locs cells slots ls9 ⟨f1, f2, f3, f4, h9, ab_fok hl ab_okI f6, f7⟩)
end AB1
