/-! written texts and the statics of the start -/
section SP2
variable {g : ab_E} {M : ab_M} {d bc bs pc : Nat} {L : List (Nat × ab_V)} {st : List ab_V} {v : gd_D} {Q : ab_O → gd_D → Prop}
theorem ab_low {p : Program} {R : Room} {s : State} {m : MethodId} {meth : Method} {c : Code} {mc ms : Nat} (X : ab_X g M d mc ms p R s m meth c) : ∀ a : Nat, a < g.2.1.heap.size → ¬ ab_A g a → s.heap[a]? = g.2.1.heap[a]? := fun a ha _ => X.2.2.2.2.2.2.2.2.2.2.2.2.2.1 a ha
/-- a static field of the start -/
theorem gd_getsG {C n ds ref : String} {x : Value} {y : ab_V} {idx : Nat} (hm : Cond.fieldLink M.1.cls idx ref n ds ∈ lw_tbl) (hre : ref = C) (hZ : ab_Z g → va_Z C n ds x (ab_A g) g.2.1 g.2.1.heap) (hy : ∀ φ, (∀ k, 65 ≤ k → φ k = g.2.2.2.2.2 k) → φ 15 0 = g.2.2.2.2.2 15 0 → ab_vl φ y = x) (hok : ab_ok (gd_e v) y) (hd : decode M.2.1 pc = .ok (.getstatic idx, 3)) (kk : gd_G g M d bc bs (pc + 3) L (y :: st) v Q) : gd_G g M d bc bs pc L st v Q := by
  intro Z p e R s m args below meth c mc ms X φ0 w0 φ H locs cells slots ls F
  obtain ⟨f1, f2, f3, f4, f5, f6, f7⟩ := F
  have hW := X.2.2.2.2.2.2.1
  subst hre
  intro T hT XT
  have e1 := hy φ f2.2.2.2.2.2.2.1 f2.2.2.2.2.2.2.2
  have K := kk Z p e R s m args below meth c mc ms X φ0 w0 φ H locs cells slots ls ⟨f1, f2, f3, f4, f5, f6, ab_p0 hok f6 f7⟩
  rw [List.map_cons, e1] at K
  exact va_gets X.1 X.2.1 (((hZ Z).moved hW.alike).kept (ab_low X)) (ab_start (g := g) hT XT f4) X.2.2.2.1 (ab_word Z hW hm rfl args) (fun _ h => h) hd K T hT XT
theorem gd_norule {idx : Nat} (hm : Cond.fieldLink M.1.cls idx "FailDesk$House" "NO_RULE" "[I" ∈ lw_tbl) (hnc : 0 < v.2.2.2.1) (hd : decode M.2.1 pc = .ok (.getstatic idx, 3)) (kk : gd_G g M d bc bs (pc + 3) L (zR 15 0 :: st) v Q) : gd_G g M d bc bs pc L st v Q :=
  gd_getsG (C := "FailDesk$House") hm rfl (fun Z => Z.2.2.2.2.2.2.2.1) (fun φ _ h => by show Value.ref _ = _; rw [h]) (ab_okR hnc) hd kk
theorem gd_compact {idx : Nat} (hm : Cond.fieldLink M.1.cls idx "java/lang/String" "COMPACT_STRINGS" "Z" ∈ lw_tbl) (hd : decode M.2.1 pc = .ok (.getstatic idx, 3)) (kk : gd_G g M d bc bs (pc + 3) L (zI 1 :: st) v Q) : gd_G g M d bc bs pc L st v Q :=
  gd_getsG (C := "java/lang/String") hm rfl (fun Z => Z.2.2.2.2.2.1) (fun φ _ h => rfl) ab_okI hd kk
theorem gd_sioobe {idx : Nat} (hm : Cond.fieldLink M.1.cls idx "jdk/internal/util/Preconditions" "SIOOBE_FORMATTER" "Ljava/util/function/BiFunction;" ∈ lw_tbl) (hd : decode M.2.1 pc = .ok (.getstatic idx, 3)) (kk : gd_G g M d bc bs (pc + 3) L (sz g :: st) v Q) : gd_G g M d bc bs pc L st v Q :=
  gd_getsG (C := "jdk/internal/util/Preconditions") hm rfl (fun Z => Z.2.2.2.2.2.2.1) (fun φ h _ => by
    unfold sz sq
    split
    · show Value.ref _ = Value.ref _
      rw [h 101 (by decide)]
    · rfl) (fun k i q => by
    unfold sz sq at q
    split at q
    · cases q; exact (show 0 < 1 by decide)
    · cases q) hd kk
/-- a written text -/
theorem gd_ldcS {i idx : Nat} (hi : i < 14) (hm : Cond.stringRef M.1.cls idx (ab_tx.getD i "") ∈ lw_tbl) (hd : decode M.2.1 pc = .ok (.ldc idx, 2)) (kk : gd_G g M d bc bs (pc + 2) L (zR 100 i :: st) v Q) : gd_G g M d bc bs pc L st v Q := by
  intro Z p e R s m args below meth c mc ms X φ0 w0 φ H locs cells slots ls F
  obtain ⟨f1, f2, f3, f4, f5, f6, f7⟩ := F
  have hW := X.2.2.2.2.2.2.1
  have K := kk Z p e R s m args below meth c mc ms X φ0 w0 φ H locs cells slots ls ⟨f1, f2, f3, f4, f5, f6, ab_p0 (ab_okR hi) f6 f7⟩
  rw [List.map_cons, show ab_vl φ (zR 100 i) = .ref (g.2.2.2.2.2 100 i) from by show Value.ref _ = _; rw [f2.2.2.2.2.2.2.1 100 (by decide)]] at K
  exact va_ldcS X.1 X.2.1 X.2.2.2.1 (vk_R.warm hW (Z.2.2.2.2.1 _ _ i hi hm)) hd K
theorem gd_ldc_wS {i idx : Nat} (hi : i < 14) (hm : Cond.stringRef M.1.cls idx (ab_tx.getD i "") ∈ lw_tbl) (hd : decode M.2.1 pc = .ok (.ldc_w idx, 3)) (kk : gd_G g M d bc bs (pc + 3) L (zR 100 i :: st) v Q) : gd_G g M d bc bs pc L st v Q := by
  intro Z p e R s m args below meth c mc ms X φ0 w0 φ H locs cells slots ls F
  obtain ⟨f1, f2, f3, f4, f5, f6, f7⟩ := F
  have hW := X.2.2.2.2.2.2.1
  have K := kk Z p e R s m args below meth c mc ms X φ0 w0 φ H locs cells slots ls ⟨f1, f2, f3, f4, f5, f6, ab_p0 (ab_okR hi) f6 f7⟩
  rw [List.map_cons, show ab_vl φ (zR 100 i) = .ref (g.2.2.2.2.2 100 i) from by show Value.ref _ = _; rw [f2.2.2.2.2.2.2.1 100 (by decide)]] at K
  have hR := vk_R.warm hW (Z.2.2.2.2.1 _ _ i hi hm)
  intro T hT XT
  obtain ⟨t, a1, b1⟩ := K T hT XT
  refine ⟨t, ldcStringW XT X.1 X.2.2.2.1 (text := ab_tx.getD i "") (a := g.2.2.2.2.2 100 i) ?_ ?_ (g := F0 m pc ls (st.map (ab_vl φ))) rfl (by rw [X.2.1]; exact hd) t a1, b1⟩
  · exact hR.1
  · exact hR.2
/-- what the start knows of the texts, here -/
theorem ab_txt {p : Program} {R : Room} {s : State} {m : MethodId} {meth : Method} {c : Code} {mc ms : Nat} (Z : ab_Z g) (X : ab_X g M d mc ms p R s m meth c) : vk_S 14 ab_tn ab_tb (g.2.2.2.2.2 100) (g.2.2.2.2.2 102) (ab_A g) s s.heap := (Z.2.2.2.1.moved X.2.2.2.2.2.2.1.alike).kept (ab_low X)
theorem gd_strV {i idx : Nat} (hm : Cond.fieldLink M.1.cls idx "java/lang/String" "value" "[B" ∈ lw_tbl) (hd : decode M.2.1 pc = .ok (.getfield idx, 3)) (kk : gd_G g M d bc bs (pc + 3) L (zR 102 i :: st) v Q) : gd_G g M d bc bs pc L (zR 100 i :: st) v Q := by
  intro Z p e R s m args below meth c mc ms X φ0 w0 φ H locs cells slots ls F
  obtain ⟨f1, f2, f3, f4, f5, f6, f7⟩ := F
  have hi : i < 14 := f7 _ List.mem_cons_self 100 i rfl
  have K := kk Z p e R s m args below meth c mc ms X φ0 w0 φ H locs cells slots ls ⟨f1, f2, f3, f4, f5, f6, ab_p1 (ab_okR hi) f6 f7⟩
  rw [List.map_cons, show ab_vl φ (zR 102 i) = .ref (g.2.2.2.2.2 102 i) from by show Value.ref _ = _; rw [f2.2.2.2.2.2.2.1 102 (by decide)]] at K
  rw [List.map_cons, show ab_vl φ (zR 100 i) = .ref (g.2.2.2.2.2 100 i) from by show Value.ref _ = _; rw [f2.2.2.2.2.2.2.1 100 (by decide)]]
  intro T hT XT
  exact vk_getf X.1 X.2.1 ((ab_txt Z X).1 i hi).2.2.1 (ab_start (g := g) hT XT f4) X.2.2.2.1 (ab_word Z X.2.2.2.2.2.2.1 hm rfl args) (fun _ h => h) hd K T hT XT
theorem gd_strC {i idx : Nat} (hm : Cond.fieldLink M.1.cls idx "java/lang/String" "coder" "B" ∈ lw_tbl) (hd : decode M.2.1 pc = .ok (.getfield idx, 3)) (kk : gd_G g M d bc bs (pc + 3) L (zI 0 :: st) v Q) : gd_G g M d bc bs pc L (zR 100 i :: st) v Q := by
  intro Z p e R s m args below meth c mc ms X φ0 w0 φ H locs cells slots ls F
  obtain ⟨f1, f2, f3, f4, f5, f6, f7⟩ := F
  have hi : i < 14 := f7 _ List.mem_cons_self 100 i rfl
  have K := kk Z p e R s m args below meth c mc ms X φ0 w0 φ H locs cells slots ls ⟨f1, f2, f3, f4, f5, f6, ab_p1 ab_okI f6 f7⟩
  rw [List.map_cons, show ab_vl φ (zR 100 i) = .ref (g.2.2.2.2.2 100 i) from by show Value.ref _ = _; rw [f2.2.2.2.2.2.2.1 100 (by decide)]]
  intro T hT XT
  exact vk_getf X.1 X.2.1 ((ab_txt Z X).1 i hi).2.1 (ab_start (g := g) hT XT f4) X.2.2.2.1 (ab_word Z X.2.2.2.2.2.2.1 hm rfl args) (fun _ h => h) hd K T hT XT
theorem gd_strA {i : Nat} (hd : decode M.2.1 pc = .ok (.arraylength, 1)) (kk : gd_G g M d bc bs (pc + 1) L (zI (Int32.ofNat (ab_tn.getD i 0)) :: st) v Q) : gd_G g M d bc bs pc L (zR 102 i :: st) v Q := by
  intro Z p e R s m args below meth c mc ms X φ0 w0 φ H locs cells slots ls F
  obtain ⟨f1, f2, f3, f4, f5, f6, f7⟩ := F
  have hi : i < 14 := f7 _ List.mem_cons_self 102 i rfl
  have K := kk Z p e R s m args below meth c mc ms X φ0 w0 φ H locs cells slots ls ⟨f1, f2, f3, f4, f5, f6, ab_p1 ab_okI f6 f7⟩
  rw [List.map_cons, show ab_vl φ (zR 102 i) = .ref (g.2.2.2.2.2 102 i) from by show Value.ref _ = _; rw [f2.2.2.2.2.2.2.1 102 (by decide)]]
  intro T hT XT
  exact va_tlen X.1 X.2.1 ((ab_txt Z X).1 i hi).2.2.2 (ab_start (g := g) hT XT f4) rfl hd K T hT XT
theorem gd_strB {i : Nat} {x : Int32} (hd : decode M.2.1 pc = .ok (.baload, 1)) (hin : vp_in x (ab_tn.getD i 0)) (kk : gd_G g M d bc bs (pc + 1) L (zI ((ab_tb.getD i []).getD x.toNatClampNeg 0) :: st) v Q) : gd_G g M d bc bs pc L (zI x :: zR 102 i :: st) v Q := by
  intro Z p e R s m args below meth c mc ms X φ0 w0 φ H locs cells slots ls F
  obtain ⟨f1, f2, f3, f4, f5, f6, f7⟩ := F
  have hi : i < 14 := f7 _ (List.mem_cons_of_mem _ List.mem_cons_self) 102 i rfl
  have K := kk Z p e R s m args below meth c mc ms X φ0 w0 φ H locs cells slots ls ⟨f1, f2, f3, f4, f5, f6, ab_p2 ab_okI f6 f7⟩
  rw [List.map_cons, List.map_cons, show ab_vl φ (zR 102 i) = .ref (g.2.2.2.2.2 102 i) from by show Value.ref _ = _; rw [f2.2.2.2.2.2.2.1 102 (by decide)]]
  intro T hT XT
  exact va_tb X.1 X.2.1 ((ab_txt Z X).1 i hi).2.2.2 (ab_start (g := g) hT XT f4) hin rfl hd K T hT XT
/-- a call of a text's own method -/
theorem gd_callT {N : ab_M} {idx n dy my sy i : Nat} {As rest : List ab_V} {Qy : ab_O → gd_D → Prop} (hl : ab_ml M.1.cls idx N n) (hin : Cond.instanceMethod N.1 ∈ lw_tbl) (hse : Cond.selects "java/lang/String" N.1 N.1 ∈ lw_tbl) (hd : decode M.2.1 pc = .ok (.invokevirtual idx, 3)) (hst : As.reverse ++ zR 100 i :: rest = st) (hn : As.length = n)
    (hR : dy + 1 ≤ d ∧ 8 + (N.2.2.1 + 11) + 60 * dy ≤ 60 * d) (hb : my ≤ bc ∧ sy ≤ bs) (hz : ab_sz rest ≤ 8) (hC : gd_C g N dy my sy (zR 100 i :: As) v Qy)
    (kk : ∀ (x : Option ab_V) (v' : gd_D), Qy (Sum.inl x) v' → gd_G g M d (bc - my) (bs - sy) (pc + 3) L (x.toList ++ rest) v' Q) (kx : ∀ (E : String) (v' : gd_D), Qy (Sum.inr E) v' → Q (Sum.inr E) v') : gd_G g M d bc bs pc L st v Q := by
  intro Z p e R s m args below meth c mc ms X φ0 w0 φ H locs cells slots ls F
  have hW := X.2.2.2.2.2.2.1
  have hRf := X.2.2.2.2.2.2.2.2.2
  have hB : dy + 1 ≤ R.frames ∧ 8 + (N.2.2.1 + 11) + 60 * dy ≤ R.locals := ⟨by omega, by omega⟩
  subst hst
  have hi : i < 14 := F.2.2.2.2.2.2 _ (List.mem_append.mpr (Or.inr List.mem_cons_self)) 100 i rfl
  have hargs : ∀ x ∈ zR 100 i :: As, ab_ok (gd_e v) x := fun x hx => F.2.2.2.2.2.2 x (by
    rcases List.mem_cons.mp hx with rfl | h
    · exact List.mem_append.mpr (Or.inr List.mem_cons_self)
    · exact List.mem_append.mpr (Or.inl (List.mem_reverse.mpr h)))
  intro T hT XT
  obtain ⟨cell, q1, q2, q3⟩ := vk_recv (ab_txt Z X) hi (ab_start (g := g) hT XT F.2.2.2.1)
  have hF1 : cells + my ≤ R.cells ∧ slots + sy ≤ R.slots := ⟨by have := F.1.1; omega, by have := F.1.2; omega⟩
  have e0 : φ 100 i = g.2.2.2.2.2 100 i := by rw [F.2.1.2.2.2.2.2.2.1 100 (by decide)]
  have hrun := vx_runV (g := F0 m pc ls ((As.reverse ++ zR 100 i :: rest).map (ab_vl φ))) (As := As.map (ab_vl φ)) (rest := rest.map (ab_vl φ)) (b := φ 100 i) (Ts := []) (cells := cells) (slots := slots) (locs := locs) (H := H) (e := e) (below := below) (meth := meth)
    ⟨X.1, X.2.1, X.2.2.1, X.2.2.2.1, fun _ h => by cases h⟩ (hC Z hargs φ) ⟨ab_callB (R := R) (dy := dy) (mc := my) (ms := sy) Z hW hl hB, ab_word Z hW hin rfl args, ab_word Z hW hse rfl args⟩
    ⟨ab_blind, ⟨cell, by rw [e0]; exact q1, q2, q3⟩, fun U hU hUW => ⟨rfl, State.WarmedH.trans hW hUW, by rw [hU]; exact F.2.1⟩⟩ rfl (by rw [List.length_map]; exact hn) F.2.2.2.2.1.1
    (by show (As.reverse ++ zR 100 i :: rest).map (ab_vl φ) = _; rw [List.map_append, List.map_reverse]; rfl) (by show 2 * 0 + _ ≤ 8; rw [ab_catsum]; omega) hd hF1
  exact ab_after (As := zR 100 i :: As) (N := N) (dy := dy) Z X F hrun hb (fun x hx => List.mem_append.mpr (Or.inr (List.mem_cons_of_mem _ hx))) (fun x w' h => by obtain ⟨v', rfl, h⟩ := h; exact kk x v' h) (fun E w' h => by obtain ⟨v', rfl, h⟩ := h; exact ⟨v', rfl, kx E v' h⟩) T hT XT
theorem gd_callTI {N : ab_M} {idx n dy my sy i : Nat} {As rest : List ab_V} {K : Int32 → gd_D → Prop} (hl : ab_ml M.1.cls idx N n) (hin : Cond.instanceMethod N.1 ∈ lw_tbl) (hse : Cond.selects "java/lang/String" N.1 N.1 ∈ lw_tbl) (hd : decode M.2.1 pc = .ok (.invokevirtual idx, 3)) (hst : As.reverse ++ zR 100 i :: rest = st) (hn : As.length = n) (hR : dy + 1 ≤ d ∧ 8 + (N.2.2.1 + 11) + 60 * dy ≤ 60 * d) (hb : my ≤ bc ∧ sy ≤ bs) (hz : ab_sz rest ≤ 8) (hC : gd_C g N dy my sy (zR 100 i :: As) v (gd_rI K (fun E v9 => Q (Sum.inr E) v9))) (kk : ∀ (r : Int32) (v9 : gd_D), K r v9 → gd_G g M d (bc - my) (bs - sy) (pc + 3) L (zI r :: rest) v9 Q) : gd_G g M d bc bs pc L st v Q := gd_callT hl hin hse hd hst hn hR hb hz hC (gd_rI_k (P := fun x v9 => gd_G g M d (bc - my) (bs - sy) (pc + 3) L (x.toList ++ rest) v9 Q) kk) (fun _ _ h => h)
end SP2
