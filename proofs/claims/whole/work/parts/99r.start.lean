/-! THE START: what the Statement gives, as the abstract machine takes it -/
section SA
variable {l : Launch} {s : State} {b : Nat}
theorem st_at (h : (Jvm.Cond.and given_1 narrow_1).before #[Value.ref b] s = true) {w : Cond} (i : Nat) (hi : (flatC (Jvm.Cond.and given_1 narrow_1))[i]? = some w) : w.before #[Value.ref b] s = true := flat_of_before _ h _ (List.mem_of_getElem? hi)
def st_ix : List Nat := [104, 110, 112, 114, 116, 118, 120, 125, 129, 131, 133, 135, 137, 139]
def st_tm (i : Nat) : Term := Term.string "FailDesk$Reader" (st_ix.getD i 0)
theorem st_ex (h : (Jvm.Cond.and given_1 narrow_1).before #[Value.ref b] s = true) : ∀ i : Nat, i < 14 → (Cond.exactly (st_tm i) "java/lang/String").before #[Value.ref b] s = true := fun i hi => match i, hi with
  | 0, _ => st_at h 104 (by decide +kernel)
  | 1, _ => st_at h 114 (by decide +kernel)
  | 2, _ => st_at h 122 (by decide +kernel)
  | 3, _ => st_at h 130 (by decide +kernel)
  | 4, _ => st_at h 137 (by decide +kernel)
  | 5, _ => st_at h 146 (by decide +kernel)
  | 6, _ => st_at h 154 (by decide +kernel)
  | 7, _ => st_at h 162 (by decide +kernel)
  | 8, _ => st_at h 169 (by decide +kernel)
  | 9, _ => st_at h 177 (by decide +kernel)
  | 10, _ => st_at h 186 (by decide +kernel)
  | 11, _ => st_at h 195 (by decide +kernel)
  | 12, _ => st_at h 205 (by decide +kernel)
  | 13, _ => st_at h 214 (by decide +kernel)
  | n + 14, hi => absurd hi (by omega)
theorem st_co (h : (Jvm.Cond.and given_1 narrow_1).before #[Value.ref b] s = true) : ∀ i : Nat, i < 14 → (Cond.eq (.field (st_tm i) "java/lang/String" "coder" "B") (.int 0)).before #[Value.ref b] s = true := fun i hi => match i, hi with
  | 0, _ => st_at h 105 (by decide +kernel)
  | 1, _ => st_at h 115 (by decide +kernel)
  | 2, _ => st_at h 123 (by decide +kernel)
  | 3, _ => st_at h 131 (by decide +kernel)
  | 4, _ => st_at h 138 (by decide +kernel)
  | 5, _ => st_at h 147 (by decide +kernel)
  | 6, _ => st_at h 155 (by decide +kernel)
  | 7, _ => st_at h 163 (by decide +kernel)
  | 8, _ => st_at h 170 (by decide +kernel)
  | 9, _ => st_at h 178 (by decide +kernel)
  | 10, _ => st_at h 187 (by decide +kernel)
  | 11, _ => st_at h 196 (by decide +kernel)
  | 12, _ => st_at h 206 (by decide +kernel)
  | 13, _ => st_at h 215 (by decide +kernel)
  | n + 14, hi => absurd hi (by omega)
theorem st_ar (h : (Jvm.Cond.and given_1 narrow_1).before #[Value.ref b] s = true) : ∀ i : Nat, i < 14 → (Cond.arrayOf (.field (st_tm i) "java/lang/String" "value" "[B") .byte).before #[Value.ref b] s = true := fun i hi => match i, hi with
  | 0, _ => st_at h 106 (by decide +kernel)
  | 1, _ => st_at h 116 (by decide +kernel)
  | 2, _ => st_at h 124 (by decide +kernel)
  | 3, _ => st_at h 132 (by decide +kernel)
  | 4, _ => st_at h 139 (by decide +kernel)
  | 5, _ => st_at h 148 (by decide +kernel)
  | 6, _ => st_at h 156 (by decide +kernel)
  | 7, _ => st_at h 164 (by decide +kernel)
  | 8, _ => st_at h 171 (by decide +kernel)
  | 9, _ => st_at h 179 (by decide +kernel)
  | 10, _ => st_at h 188 (by decide +kernel)
  | 11, _ => st_at h 197 (by decide +kernel)
  | 12, _ => st_at h 207 (by decide +kernel)
  | 13, _ => st_at h 216 (by decide +kernel)
  | n + 14, hi => absurd hi (by omega)
theorem st_le (h : (Jvm.Cond.and given_1 narrow_1).before #[Value.ref b] s = true) : ∀ i : Nat, i < 14 → (Cond.eq (.length (.field (st_tm i) "java/lang/String" "value" "[B")) (.int (Int32.ofNat (ab_tn.getD i 0)))).before #[Value.ref b] s = true := fun i hi => match i, hi with
  | 0, _ => st_at h 107 (by decide +kernel)
  | 1, _ => st_at h 117 (by decide +kernel)
  | 2, _ => st_at h 125 (by decide +kernel)
  | 3, _ => st_at h 133 (by decide +kernel)
  | 4, _ => st_at h 140 (by decide +kernel)
  | 5, _ => st_at h 149 (by decide +kernel)
  | 6, _ => st_at h 157 (by decide +kernel)
  | 7, _ => st_at h 165 (by decide +kernel)
  | 8, _ => st_at h 172 (by decide +kernel)
  | 9, _ => st_at h 180 (by decide +kernel)
  | 10, _ => st_at h 189 (by decide +kernel)
  | 11, _ => st_at h 198 (by decide +kernel)
  | 12, _ => st_at h 208 (by decide +kernel)
  | 13, _ => st_at h 217 (by decide +kernel)
  | n + 14, hi => absurd hi (by omega)
theorem st_el0 (h : (Jvm.Cond.and given_1 narrow_1).before #[Value.ref b] s = true) : ∀ j : Nat, j < 6 → (Cond.eq (.elem (.field (st_tm 0) "java/lang/String" "value" "[B") (.int (Int32.ofNat j))) (.int ((ab_tb.getD 0 []).getD j 0))).before #[Value.ref b] s = true := fun j hj => match j, hj with
  | 0, _ => st_at h 108 (by decide +kernel)
  | 1, _ => st_at h 109 (by decide +kernel)
  | 2, _ => st_at h 110 (by decide +kernel)
  | 3, _ => st_at h 111 (by decide +kernel)
  | 4, _ => st_at h 112 (by decide +kernel)
  | 5, _ => st_at h 113 (by decide +kernel)
  | n + 6, hj => absurd hj (by omega)
theorem st_el1 (h : (Jvm.Cond.and given_1 narrow_1).before #[Value.ref b] s = true) : ∀ j : Nat, j < 4 → (Cond.eq (.elem (.field (st_tm 1) "java/lang/String" "value" "[B") (.int (Int32.ofNat j))) (.int ((ab_tb.getD 1 []).getD j 0))).before #[Value.ref b] s = true := fun j hj => match j, hj with
  | 0, _ => st_at h 118 (by decide +kernel)
  | 1, _ => st_at h 119 (by decide +kernel)
  | 2, _ => st_at h 120 (by decide +kernel)
  | 3, _ => st_at h 121 (by decide +kernel)
  | n + 4, hj => absurd hj (by omega)
theorem st_el2 (h : (Jvm.Cond.and given_1 narrow_1).before #[Value.ref b] s = true) : ∀ j : Nat, j < 4 → (Cond.eq (.elem (.field (st_tm 2) "java/lang/String" "value" "[B") (.int (Int32.ofNat j))) (.int ((ab_tb.getD 2 []).getD j 0))).before #[Value.ref b] s = true := fun j hj => match j, hj with
  | 0, _ => st_at h 126 (by decide +kernel)
  | 1, _ => st_at h 127 (by decide +kernel)
  | 2, _ => st_at h 128 (by decide +kernel)
  | 3, _ => st_at h 129 (by decide +kernel)
  | n + 4, hj => absurd hj (by omega)
theorem st_el3 (h : (Jvm.Cond.and given_1 narrow_1).before #[Value.ref b] s = true) : ∀ j : Nat, j < 3 → (Cond.eq (.elem (.field (st_tm 3) "java/lang/String" "value" "[B") (.int (Int32.ofNat j))) (.int ((ab_tb.getD 3 []).getD j 0))).before #[Value.ref b] s = true := fun j hj => match j, hj with
  | 0, _ => st_at h 134 (by decide +kernel)
  | 1, _ => st_at h 135 (by decide +kernel)
  | 2, _ => st_at h 136 (by decide +kernel)
  | n + 3, hj => absurd hj (by omega)
theorem st_el4 (h : (Jvm.Cond.and given_1 narrow_1).before #[Value.ref b] s = true) : ∀ j : Nat, j < 5 → (Cond.eq (.elem (.field (st_tm 4) "java/lang/String" "value" "[B") (.int (Int32.ofNat j))) (.int ((ab_tb.getD 4 []).getD j 0))).before #[Value.ref b] s = true := fun j hj => match j, hj with
  | 0, _ => st_at h 141 (by decide +kernel)
  | 1, _ => st_at h 142 (by decide +kernel)
  | 2, _ => st_at h 143 (by decide +kernel)
  | 3, _ => st_at h 144 (by decide +kernel)
  | 4, _ => st_at h 145 (by decide +kernel)
  | n + 5, hj => absurd hj (by omega)
theorem st_el5 (h : (Jvm.Cond.and given_1 narrow_1).before #[Value.ref b] s = true) : ∀ j : Nat, j < 4 → (Cond.eq (.elem (.field (st_tm 5) "java/lang/String" "value" "[B") (.int (Int32.ofNat j))) (.int ((ab_tb.getD 5 []).getD j 0))).before #[Value.ref b] s = true := fun j hj => match j, hj with
  | 0, _ => st_at h 150 (by decide +kernel)
  | 1, _ => st_at h 151 (by decide +kernel)
  | 2, _ => st_at h 152 (by decide +kernel)
  | 3, _ => st_at h 153 (by decide +kernel)
  | n + 4, hj => absurd hj (by omega)
theorem st_el6 (h : (Jvm.Cond.and given_1 narrow_1).before #[Value.ref b] s = true) : ∀ j : Nat, j < 4 → (Cond.eq (.elem (.field (st_tm 6) "java/lang/String" "value" "[B") (.int (Int32.ofNat j))) (.int ((ab_tb.getD 6 []).getD j 0))).before #[Value.ref b] s = true := fun j hj => match j, hj with
  | 0, _ => st_at h 158 (by decide +kernel)
  | 1, _ => st_at h 159 (by decide +kernel)
  | 2, _ => st_at h 160 (by decide +kernel)
  | 3, _ => st_at h 161 (by decide +kernel)
  | n + 4, hj => absurd hj (by omega)
theorem st_el7 (h : (Jvm.Cond.and given_1 narrow_1).before #[Value.ref b] s = true) : ∀ j : Nat, j < 3 → (Cond.eq (.elem (.field (st_tm 7) "java/lang/String" "value" "[B") (.int (Int32.ofNat j))) (.int ((ab_tb.getD 7 []).getD j 0))).before #[Value.ref b] s = true := fun j hj => match j, hj with
  | 0, _ => st_at h 166 (by decide +kernel)
  | 1, _ => st_at h 167 (by decide +kernel)
  | 2, _ => st_at h 168 (by decide +kernel)
  | n + 3, hj => absurd hj (by omega)
theorem st_el8 (h : (Jvm.Cond.and given_1 narrow_1).before #[Value.ref b] s = true) : ∀ j : Nat, j < 4 → (Cond.eq (.elem (.field (st_tm 8) "java/lang/String" "value" "[B") (.int (Int32.ofNat j))) (.int ((ab_tb.getD 8 []).getD j 0))).before #[Value.ref b] s = true := fun j hj => match j, hj with
  | 0, _ => st_at h 173 (by decide +kernel)
  | 1, _ => st_at h 174 (by decide +kernel)
  | 2, _ => st_at h 175 (by decide +kernel)
  | 3, _ => st_at h 176 (by decide +kernel)
  | n + 4, hj => absurd hj (by omega)
theorem st_el9 (h : (Jvm.Cond.and given_1 narrow_1).before #[Value.ref b] s = true) : ∀ j : Nat, j < 5 → (Cond.eq (.elem (.field (st_tm 9) "java/lang/String" "value" "[B") (.int (Int32.ofNat j))) (.int ((ab_tb.getD 9 []).getD j 0))).before #[Value.ref b] s = true := fun j hj => match j, hj with
  | 0, _ => st_at h 181 (by decide +kernel)
  | 1, _ => st_at h 182 (by decide +kernel)
  | 2, _ => st_at h 183 (by decide +kernel)
  | 3, _ => st_at h 184 (by decide +kernel)
  | 4, _ => st_at h 185 (by decide +kernel)
  | n + 5, hj => absurd hj (by omega)
theorem st_el10 (h : (Jvm.Cond.and given_1 narrow_1).before #[Value.ref b] s = true) : ∀ j : Nat, j < 5 → (Cond.eq (.elem (.field (st_tm 10) "java/lang/String" "value" "[B") (.int (Int32.ofNat j))) (.int ((ab_tb.getD 10 []).getD j 0))).before #[Value.ref b] s = true := fun j hj => match j, hj with
  | 0, _ => st_at h 190 (by decide +kernel)
  | 1, _ => st_at h 191 (by decide +kernel)
  | 2, _ => st_at h 192 (by decide +kernel)
  | 3, _ => st_at h 193 (by decide +kernel)
  | 4, _ => st_at h 194 (by decide +kernel)
  | n + 5, hj => absurd hj (by omega)
theorem st_el11 (h : (Jvm.Cond.and given_1 narrow_1).before #[Value.ref b] s = true) : ∀ j : Nat, j < 6 → (Cond.eq (.elem (.field (st_tm 11) "java/lang/String" "value" "[B") (.int (Int32.ofNat j))) (.int ((ab_tb.getD 11 []).getD j 0))).before #[Value.ref b] s = true := fun j hj => match j, hj with
  | 0, _ => st_at h 199 (by decide +kernel)
  | 1, _ => st_at h 200 (by decide +kernel)
  | 2, _ => st_at h 201 (by decide +kernel)
  | 3, _ => st_at h 202 (by decide +kernel)
  | 4, _ => st_at h 203 (by decide +kernel)
  | 5, _ => st_at h 204 (by decide +kernel)
  | n + 6, hj => absurd hj (by omega)
theorem st_el12 (h : (Jvm.Cond.and given_1 narrow_1).before #[Value.ref b] s = true) : ∀ j : Nat, j < 5 → (Cond.eq (.elem (.field (st_tm 12) "java/lang/String" "value" "[B") (.int (Int32.ofNat j))) (.int ((ab_tb.getD 12 []).getD j 0))).before #[Value.ref b] s = true := fun j hj => match j, hj with
  | 0, _ => st_at h 209 (by decide +kernel)
  | 1, _ => st_at h 210 (by decide +kernel)
  | 2, _ => st_at h 211 (by decide +kernel)
  | 3, _ => st_at h 212 (by decide +kernel)
  | 4, _ => st_at h 213 (by decide +kernel)
  | n + 5, hj => absurd hj (by omega)
theorem st_el13 (h : (Jvm.Cond.and given_1 narrow_1).before #[Value.ref b] s = true) : ∀ j : Nat, j < 3 → (Cond.eq (.elem (.field (st_tm 13) "java/lang/String" "value" "[B") (.int (Int32.ofNat j))) (.int ((ab_tb.getD 13 []).getD j 0))).before #[Value.ref b] s = true := fun j hj => match j, hj with
  | 0, _ => st_at h 218 (by decide +kernel)
  | 1, _ => st_at h 219 (by decide +kernel)
  | 2, _ => st_at h 220 (by decide +kernel)
  | n + 3, hj => absurd hj (by omega)
theorem st_el (h : (Jvm.Cond.and given_1 narrow_1).before #[Value.ref b] s = true) : ∀ i : Nat, i < 14 → ∀ j : Nat, j < ab_tn.getD i 0 → (Cond.eq (.elem (.field (st_tm i) "java/lang/String" "value" "[B") (.int (Int32.ofNat j))) (.int ((ab_tb.getD i []).getD j 0))).before #[Value.ref b] s = true := fun i hi => match i, hi with
  | 0, _ => st_el0 h
  | 1, _ => st_el1 h
  | 2, _ => st_el2 h
  | 3, _ => st_el3 h
  | 4, _ => st_el4 h
  | 5, _ => st_el5 h
  | 6, _ => st_el6 h
  | 7, _ => st_el7 h
  | 8, _ => st_el8 h
  | 9, _ => st_el9 h
  | 10, _ => st_el10 h
  | 11, _ => st_el11 h
  | 12, _ => st_el12 h
  | 13, _ => st_el13 h
  | n + 14, hi => absurd hi (by omega)
theorem st_dif : ∀ i, i < 14 → ∀ j, j < 14 → ab_tn.getD i 0 = ab_tn.getD j 0 → (∀ k, k < ab_tn.getD i 0 → (ab_tb.getD i []).getD k 0 = (ab_tb.getD j []).getD k 0) → i = j := by decide +kernel
theorem st_len : ∀ i, i < 14 → ab_tn.getD i 0 < 2 ^ 31 := by decide +kernel
/-- the written texts -/
theorem st_S (h : (Jvm.Cond.and given_1 narrow_1).before #[Value.ref b] s = true) {A : Nat → Prop} (hA : ∀ a : Nat, a < s.heap.size → ¬ A a) : ∃ adK adV : Nat → Nat, vk_S 14 ab_tn ab_tb adK adV A s s.heap ∧ ∀ i : Nat, i < 14 → (st_tm i).eval #[Value.ref b] s none [] s = some (.ref (adK i)) := by
  have h0 : ∀ i : Nat, ∃ q : Nat × Nat, i < 14 → (st_tm i).eval #[Value.ref b] s none [] s = some (.ref q.1) ∧ va_O "java/lang/String" q.1 A s s.heap ∧ va_OF "java/lang/String" "coder" "B" (.int 0) q.1 A s s.heap ∧ va_OF "java/lang/String" "value" "[B" (.ref q.2) q.1 A s s.heap ∧ va_T .byte q.2 (ab_tn.getD i 0) (fun j => .int ((ab_tb.getD i []).getD j 0)) A s s.heap := by
    intro i
    by_cases hi : i < 14
    · obtain ⟨a, c, cA, kA, q1, q2, q3, q4, q5, q6, -⟩ := Cond.exactly_spec (args := #[Value.ref b]) (first := s) (o := none) (s := s) (idx := []) (t := st_tm i) (cls := "java/lang/String") (st_ex h i hi)
      obtain ⟨t, ht, hT⟩ := va_Tof (f := fun j => .int ((ab_tb.getD i []).getD j 0)) (A := A) (st_len i hi) (st_ar h i hi) (va_eqt (st_le h i hi)) (fun j hj => va_eqt (st_el h i hi j hj)) hA
      exact ⟨(a, t), fun _ => ⟨q1, ⟨cA, q3, q5, by rw [q6]; exact q2, hA a (Array.getElem?_eq_some_iff.mp q3).1⟩, vk_OFof q1 (va_eqt (st_co h i hi)) hA, vk_OFof q1 ht hA, hT⟩⟩
    · exact ⟨(0, 0), fun h => absurd h hi⟩
  obtain ⟨ad, had⟩ := Classical.axiomOfChoice h0
  refine ⟨fun i => (ad i).1, fun i => (ad i).2, ⟨fun i hi => (had i hi).2, fun i j hi hj e => ?_⟩, fun i hi => (had i hi).1⟩
  have e : (ad i).1 = (ad j).1 := e
  obtain ⟨-, -, -, ⟨c1, k1, i1, f1, cell1, u1, u2, u3, u4, u5, -⟩, T1⟩ := had i hi
  obtain ⟨-, -, -, ⟨c2, k2, i2, f2, cell2, w1, w2, w3, w4, w5, -⟩, T2⟩ := had j hj
  rw [u1] at w1
  cases w1
  rw [e] at u3
  cases Option.some.inj (u3.symm.trans w3)
  have e2 : (ad i).2 = (ad j).2 := by
    have := Option.some.inj (u5.symm.trans w5)
    exact Value.ref.inj this
  obtain ⟨d1, x1, -, -, x4, x5, x6, -⟩ := T1
  obtain ⟨d2, y1, -, -, y4, y5, y6, -⟩ := T2
  rw [e2] at x1
  cases Option.some.inj (x1.symm.trans y1)
  have en : ab_tn.getD i 0 = ab_tn.getD j 0 := by
    have h1 := st_len i hi
    have h2 := st_len j hj
    have h3 : Int32.ofNat (ab_tn.getD i 0) = Int32.ofNat (ab_tn.getD j 0) := x5.symm.trans y5
    exact (nI_eq h1 h2).mp h3
  refine st_dif i hi j hj en (fun k hk => ?_)
  have h1 := x6 k hk
  have h2 := y6 k (by rw [← en]; exact hk)
  have h3 := Option.some.inj (h1.symm.trans h2)
  exact Value.int.inj h3
def st_sr : List (String × Nat × String) := [("FailDesk$Reader", 104, "dealer"), ("FailDeskModel", 237, "dealer"), ("FailDesk$Reader", 110, "sale"), ("FailDeskModel", 242, "sale"), ("FailDesk$Reader", 112, "rate"), ("FailDeskModel", 252, "rate"), ("FailDesk$Reader", 114, "lot"), ("FailDeskModel", 258, "lot"), ("FailDesk$Reader", 116, "buyin"), ("FailDeskModel", 260, "buyin"), ("FailDesk$Reader", 118, "mark"), ("FailDeskModel", 262, "mark"), ("FailDesk$Reader", 120, "rule"), ("FailDeskModel", 247, "rule"), ("FailDesk$Reader", 125, "age"), ("FailDeskModel", 168, "age"), ("FailDesk$Reader", 129, "open"), ("FailDeskModel", 170, "open"), ("FailDesk$Reader", 131, "units"), ("FailDeskModel", 172, "units"), ("FailDesk$Reader", 133, "price"), ("FailDeskModel", 174, "price"), ("FailDesk$Reader", 135, "seller"), ("FailDeskModel", 176, "seller"), ("FailDesk$Reader", 137, "buyer"), ("FailDeskModel", 178, "buyer"), ("FailDesk$Reader", 139, "due"), ("FailDeskModel", 180, "due")]
def st_isr : Cond → Bool
  | .stringRef own idx tx => decide ((own, idx, tx) ∈ st_sr)
  | _ => true
theorem st_all : lw_tbl.all st_isr = true := by decide +kernel
theorem st_R0 (h : (Jvm.Cond.and given_1 narrow_1).before #[Value.ref b] s = true) {ad : Nat → Nat} (had : ∀ i : Nat, i < 14 → (st_tm i).eval #[Value.ref b] s none [] s = some (.ref (ad i))) {own : String} {idx : Nat} (h2 : (own, idx, ab_tx.getD 0 "") ∈ st_sr) : (Term.string own idx).eval #[Value.ref b] s none [] s = some (.ref (ad 0)) := by
  have h3 : own = "FailDesk$Reader" ∧ idx = 104 ∨ own = "FailDeskModel" ∧ idx = 237 := by simpa [st_sr, ab_tx] using h2
  rcases h3 with ⟨rfl, rfl⟩ | ⟨rfl, rfl⟩
  · exact had 0 (by decide)
  · exact va_eqR (st_at h 231 (by decide +kernel)) (had 0 (by decide))
theorem st_R1 (h : (Jvm.Cond.and given_1 narrow_1).before #[Value.ref b] s = true) {ad : Nat → Nat} (had : ∀ i : Nat, i < 14 → (st_tm i).eval #[Value.ref b] s none [] s = some (.ref (ad i))) {own : String} {idx : Nat} (h2 : (own, idx, ab_tx.getD 1 "") ∈ st_sr) : (Term.string own idx).eval #[Value.ref b] s none [] s = some (.ref (ad 1)) := by
  have h3 : own = "FailDesk$Reader" ∧ idx = 110 ∨ own = "FailDeskModel" ∧ idx = 242 := by simpa [st_sr, ab_tx] using h2
  rcases h3 with ⟨rfl, rfl⟩ | ⟨rfl, rfl⟩
  · exact had 1 (by decide)
  · exact va_eqR (st_at h 240 (by decide +kernel)) (had 1 (by decide))
theorem st_R2 (h : (Jvm.Cond.and given_1 narrow_1).before #[Value.ref b] s = true) {ad : Nat → Nat} (had : ∀ i : Nat, i < 14 → (st_tm i).eval #[Value.ref b] s none [] s = some (.ref (ad i))) {own : String} {idx : Nat} (h2 : (own, idx, ab_tx.getD 2 "") ∈ st_sr) : (Term.string own idx).eval #[Value.ref b] s none [] s = some (.ref (ad 2)) := by
  have h3 : own = "FailDesk$Reader" ∧ idx = 112 ∨ own = "FailDeskModel" ∧ idx = 252 := by simpa [st_sr, ab_tx] using h2
  rcases h3 with ⟨rfl, rfl⟩ | ⟨rfl, rfl⟩
  · exact had 2 (by decide)
  · exact va_eqR (st_at h 324 (by decide +kernel)) (had 2 (by decide))
theorem st_R3 (h : (Jvm.Cond.and given_1 narrow_1).before #[Value.ref b] s = true) {ad : Nat → Nat} (had : ∀ i : Nat, i < 14 → (st_tm i).eval #[Value.ref b] s none [] s = some (.ref (ad i))) {own : String} {idx : Nat} (h2 : (own, idx, ab_tx.getD 3 "") ∈ st_sr) : (Term.string own idx).eval #[Value.ref b] s none [] s = some (.ref (ad 3)) := by
  have h3 : own = "FailDesk$Reader" ∧ idx = 114 ∨ own = "FailDeskModel" ∧ idx = 258 := by simpa [st_sr, ab_tx] using h2
  rcases h3 with ⟨rfl, rfl⟩ | ⟨rfl, rfl⟩
  · exact had 3 (by decide)
  · exact va_eqR (st_at h 332 (by decide +kernel)) (had 3 (by decide))
theorem st_R4 (h : (Jvm.Cond.and given_1 narrow_1).before #[Value.ref b] s = true) {ad : Nat → Nat} (had : ∀ i : Nat, i < 14 → (st_tm i).eval #[Value.ref b] s none [] s = some (.ref (ad i))) {own : String} {idx : Nat} (h2 : (own, idx, ab_tx.getD 4 "") ∈ st_sr) : (Term.string own idx).eval #[Value.ref b] s none [] s = some (.ref (ad 4)) := by
  have h3 : own = "FailDesk$Reader" ∧ idx = 116 ∨ own = "FailDeskModel" ∧ idx = 260 := by simpa [st_sr, ab_tx] using h2
  rcases h3 with ⟨rfl, rfl⟩ | ⟨rfl, rfl⟩
  · exact had 4 (by decide)
  · exact va_eqR (st_at h 342 (by decide +kernel)) (had 4 (by decide))
theorem st_R5 (h : (Jvm.Cond.and given_1 narrow_1).before #[Value.ref b] s = true) {ad : Nat → Nat} (had : ∀ i : Nat, i < 14 → (st_tm i).eval #[Value.ref b] s none [] s = some (.ref (ad i))) {own : String} {idx : Nat} (h2 : (own, idx, ab_tx.getD 5 "") ∈ st_sr) : (Term.string own idx).eval #[Value.ref b] s none [] s = some (.ref (ad 5)) := by
  have h3 : own = "FailDesk$Reader" ∧ idx = 118 ∨ own = "FailDeskModel" ∧ idx = 262 := by simpa [st_sr, ab_tx] using h2
  rcases h3 with ⟨rfl, rfl⟩ | ⟨rfl, rfl⟩
  · exact had 5 (by decide)
  · exact va_eqR (st_at h 351 (by decide +kernel)) (had 5 (by decide))
theorem st_R6 (h : (Jvm.Cond.and given_1 narrow_1).before #[Value.ref b] s = true) {ad : Nat → Nat} (had : ∀ i : Nat, i < 14 → (st_tm i).eval #[Value.ref b] s none [] s = some (.ref (ad i))) {own : String} {idx : Nat} (h2 : (own, idx, ab_tx.getD 6 "") ∈ st_sr) : (Term.string own idx).eval #[Value.ref b] s none [] s = some (.ref (ad 6)) := by
  have h3 : own = "FailDesk$Reader" ∧ idx = 120 ∨ own = "FailDeskModel" ∧ idx = 247 := by simpa [st_sr, ab_tx] using h2
  rcases h3 with ⟨rfl, rfl⟩ | ⟨rfl, rfl⟩
  · exact had 6 (by decide)
  · exact va_eqR (st_at h 249 (by decide +kernel)) (had 6 (by decide))
theorem st_R7 (h : (Jvm.Cond.and given_1 narrow_1).before #[Value.ref b] s = true) {ad : Nat → Nat} (had : ∀ i : Nat, i < 14 → (st_tm i).eval #[Value.ref b] s none [] s = some (.ref (ad i))) {own : String} {idx : Nat} (h2 : (own, idx, ab_tx.getD 7 "") ∈ st_sr) : (Term.string own idx).eval #[Value.ref b] s none [] s = some (.ref (ad 7)) := by
  have h3 : own = "FailDesk$Reader" ∧ idx = 125 ∨ own = "FailDeskModel" ∧ idx = 168 := by simpa [st_sr, ab_tx] using h2
  rcases h3 with ⟨rfl, rfl⟩ | ⟨rfl, rfl⟩
  · exact had 7 (by decide)
  · exact va_eqR (st_at h 257 (by decide +kernel)) (had 7 (by decide))
theorem st_R8 (h : (Jvm.Cond.and given_1 narrow_1).before #[Value.ref b] s = true) {ad : Nat → Nat} (had : ∀ i : Nat, i < 14 → (st_tm i).eval #[Value.ref b] s none [] s = some (.ref (ad i))) {own : String} {idx : Nat} (h2 : (own, idx, ab_tx.getD 8 "") ∈ st_sr) : (Term.string own idx).eval #[Value.ref b] s none [] s = some (.ref (ad 8)) := by
  have h3 : own = "FailDesk$Reader" ∧ idx = 129 ∨ own = "FailDeskModel" ∧ idx = 170 := by simpa [st_sr, ab_tx] using h2
  rcases h3 with ⟨rfl, rfl⟩ | ⟨rfl, rfl⟩
  · exact had 8 (by decide)
  · exact va_eqR (st_at h 266 (by decide +kernel)) (had 8 (by decide))
theorem st_R9 (h : (Jvm.Cond.and given_1 narrow_1).before #[Value.ref b] s = true) {ad : Nat → Nat} (had : ∀ i : Nat, i < 14 → (st_tm i).eval #[Value.ref b] s none [] s = some (.ref (ad i))) {own : String} {idx : Nat} (h2 : (own, idx, ab_tx.getD 9 "") ∈ st_sr) : (Term.string own idx).eval #[Value.ref b] s none [] s = some (.ref (ad 9)) := by
  have h3 : own = "FailDesk$Reader" ∧ idx = 131 ∨ own = "FailDeskModel" ∧ idx = 172 := by simpa [st_sr, ab_tx] using h2
  rcases h3 with ⟨rfl, rfl⟩ | ⟨rfl, rfl⟩
  · exact had 9 (by decide)
  · exact va_eqR (st_at h 276 (by decide +kernel)) (had 9 (by decide))
theorem st_R10 (h : (Jvm.Cond.and given_1 narrow_1).before #[Value.ref b] s = true) {ad : Nat → Nat} (had : ∀ i : Nat, i < 14 → (st_tm i).eval #[Value.ref b] s none [] s = some (.ref (ad i))) {own : String} {idx : Nat} (h2 : (own, idx, ab_tx.getD 10 "") ∈ st_sr) : (Term.string own idx).eval #[Value.ref b] s none [] s = some (.ref (ad 10)) := by
  have h3 : own = "FailDesk$Reader" ∧ idx = 133 ∨ own = "FailDeskModel" ∧ idx = 174 := by simpa [st_sr, ab_tx] using h2
  rcases h3 with ⟨rfl, rfl⟩ | ⟨rfl, rfl⟩
  · exact had 10 (by decide)
  · exact va_eqR (st_at h 286 (by decide +kernel)) (had 10 (by decide))
theorem st_R11 (h : (Jvm.Cond.and given_1 narrow_1).before #[Value.ref b] s = true) {ad : Nat → Nat} (had : ∀ i : Nat, i < 14 → (st_tm i).eval #[Value.ref b] s none [] s = some (.ref (ad i))) {own : String} {idx : Nat} (h2 : (own, idx, ab_tx.getD 11 "") ∈ st_sr) : (Term.string own idx).eval #[Value.ref b] s none [] s = some (.ref (ad 11)) := by
  have h3 : own = "FailDesk$Reader" ∧ idx = 135 ∨ own = "FailDeskModel" ∧ idx = 176 := by simpa [st_sr, ab_tx] using h2
  rcases h3 with ⟨rfl, rfl⟩ | ⟨rfl, rfl⟩
  · exact had 11 (by decide)
  · exact va_eqR (st_at h 297 (by decide +kernel)) (had 11 (by decide))
theorem st_R12 (h : (Jvm.Cond.and given_1 narrow_1).before #[Value.ref b] s = true) {ad : Nat → Nat} (had : ∀ i : Nat, i < 14 → (st_tm i).eval #[Value.ref b] s none [] s = some (.ref (ad i))) {own : String} {idx : Nat} (h2 : (own, idx, ab_tx.getD 12 "") ∈ st_sr) : (Term.string own idx).eval #[Value.ref b] s none [] s = some (.ref (ad 12)) := by
  have h3 : own = "FailDesk$Reader" ∧ idx = 137 ∨ own = "FailDeskModel" ∧ idx = 178 := by simpa [st_sr, ab_tx] using h2
  rcases h3 with ⟨rfl, rfl⟩ | ⟨rfl, rfl⟩
  · exact had 12 (by decide)
  · exact va_eqR (st_at h 307 (by decide +kernel)) (had 12 (by decide))
theorem st_R13 (h : (Jvm.Cond.and given_1 narrow_1).before #[Value.ref b] s = true) {ad : Nat → Nat} (had : ∀ i : Nat, i < 14 → (st_tm i).eval #[Value.ref b] s none [] s = some (.ref (ad i))) {own : String} {idx : Nat} (h2 : (own, idx, ab_tx.getD 13 "") ∈ st_sr) : (Term.string own idx).eval #[Value.ref b] s none [] s = some (.ref (ad 13)) := by
  have h3 : own = "FailDesk$Reader" ∧ idx = 139 ∨ own = "FailDeskModel" ∧ idx = 180 := by simpa [st_sr, ab_tx] using h2
  rcases h3 with ⟨rfl, rfl⟩ | ⟨rfl, rfl⟩
  · exact had 13 (by decide)
  · exact va_eqR (st_at h 315 (by decide +kernel)) (had 13 (by decide))
theorem st_R (h : (Jvm.Cond.and given_1 narrow_1).before #[Value.ref b] s = true) (hts : ∀ w ∈ lw_tbl, w.before #[Value.ref b] s = true) {ad : Nat → Nat} (had : ∀ i : Nat, i < 14 → (st_tm i).eval #[Value.ref b] s none [] s = some (.ref (ad i))) : ∀ (own : String) (idx i : Nat), i < 14 → Cond.stringRef own idx (ab_tx.getD i "") ∈ lw_tbl → vk_R own idx (ab_tx.getD i "") (ad i) s := by
  intro own idx i hi hm
  have h1 := List.all_eq_true.mp st_all _ hm
  have h2 : (own, idx, ab_tx.getD i "") ∈ st_sr := of_decide_eq_true h1
  refine vk_R.of (A := #[Value.ref b]) (hts _ hm) ?_
  match i, hi with
  | 0, hi => exact st_R0 h had h2
  | 1, hi => exact st_R1 h had h2
  | 2, hi => exact st_R2 h had h2
  | 3, hi => exact st_R3 h had h2
  | 4, hi => exact st_R4 h had h2
  | 5, hi => exact st_R5 h had h2
  | 6, hi => exact st_R6 h had h2
  | 7, hi => exact st_R7 h had h2
  | 8, hi => exact st_R8 h had h2
  | 9, hi => exact st_R9 h had h2
  | 10, hi => exact st_R10 h had h2
  | 11, hi => exact st_R11 h had h2
  | 12, hi => exact st_R12 h had h2
  | 13, hi => exact st_R13 h had h2
  | n + 14, hi => exact absurd hi (by omega)
/-- classes, arrays -/
theorem st_cls (hts : ∀ w ∈ lw_tbl, w.before #[Value.ref b] s = true) : ∃ (dC : Nat → ClassId) (dI : Nat → Nat → Nat), ∀ (k : Nat) (q : vw_C), ab_cl[k]? = some q → u_Kn s q.1 q.2.1 q.2.2 (dC k) (dI k) := by
  have h0 : ∀ k : Nat, ∃ z : ClassId × (Nat → Nat), ∀ q : vw_C, ab_cl[k]? = some q → u_Kn s q.1 q.2.1 q.2.2 z.1 z.2 := by
    intro k
    match k with
    | 0 => obtain ⟨x, y, hz⟩ := u_known (C := RX0) (T := TX0) (N := 6) (n := 6) hts (fun w hw => (ab_in0 w hw).1) (hts _ (List.mem_of_getElem? (i := 166) (by decide +kernel))); exact ⟨(x, y), fun q hq => by cases hq; exact hz⟩
    | 1 => obtain ⟨x, y, hz⟩ := u_known (C := RX1) (T := TX1) (N := 3) (n := 3) hts (fun w hw => (ab_in1 w hw).1) (hts _ (List.mem_of_getElem? (i := 394) (by decide +kernel))); exact ⟨(x, y), fun q hq => by cases hq; exact hz⟩
    | 2 => obtain ⟨x, y, hz⟩ := u_known (C := RX2) (T := TX2) (N := 11) (n := 11) hts (fun w hw => (ab_in2 w hw).1) (hts _ (List.mem_of_getElem? (i := 155) (by decide +kernel))); exact ⟨(x, y), fun q hq => by cases hq; exact hz⟩
    | 3 => obtain ⟨x, y, hz⟩ := u_known (C := RX3) (T := TX3) (N := 5) (n := 5) hts (fun w hw => (ab_in3 w hw).1) (hts _ (List.mem_of_getElem? (i := 503) (by decide +kernel))); exact ⟨(x, y), fun q hq => by cases hq; exact hz⟩
    | 4 => obtain ⟨x, y, hz⟩ := u_known (C := RX4) (T := TX4) (N := 6) (n := 6) hts (fun w hw => (ab_in4 w hw).1) (hts _ (List.mem_of_getElem? (i := 525) (by decide +kernel))); exact ⟨(x, y), fun q hq => by cases hq; exact hz⟩
    | 5 => obtain ⟨x, y, hz⟩ := u_known (C := RX5) (T := TX5) (N := 4) (n := 4) hts (fun w hw => (ab_in5 w hw).1) (hts _ (List.mem_of_getElem? (i := 416) (by decide +kernel))); exact ⟨(x, y), fun q hq => by cases hq; exact hz⟩
    | 6 => obtain ⟨x, y, hz⟩ := u_known (C := RX6) (T := TX6) (N := 8) (n := 8) hts (fun w hw => (ab_in6 w hw).1) (hts _ (List.mem_of_getElem? (i := 442) (by decide +kernel))); exact ⟨(x, y), fun q hq => by cases hq; exact hz⟩
    | 7 => obtain ⟨x, y, hz⟩ := u_known (C := RX7) (T := TX7) (N := 13) (n := 13) hts (fun w hw => (ab_in7 w hw).1) (hts _ (List.mem_of_getElem? (i := 149) (by decide +kernel))); exact ⟨(x, y), fun q hq => by cases hq; exact hz⟩
    | 8 => obtain ⟨x, y, hz⟩ := u_known (C := RX8) (T := TX8) (N := 4) (n := 4) hts (fun w hw => (ab_in8 w hw).1) (hts _ (List.mem_of_getElem? (i := 478) (by decide +kernel))); exact ⟨(x, y), fun q hq => by cases hq; exact hz⟩
    | 9 => obtain ⟨x, y, hz⟩ := u_known (C := RX9) (T := TX9) (N := 9) (n := 9) hts (fun w hw => (ab_in9 w hw).1) (hts _ (List.mem_of_getElem? (i := 204) (by decide +kernel))); exact ⟨(x, y), fun q hq => by cases hq; exact hz⟩
    | 10 => obtain ⟨x, y, hz⟩ := u_known (C := RX10) (T := TX10) (N := 11) (n := 11) hts (fun w hw => (ab_in10 w hw).1) (hts _ (List.mem_of_getElem? (i := 141) (by decide +kernel))); exact ⟨(x, y), fun q hq => by cases hq; exact hz⟩
    | 11 => obtain ⟨x, y, hz⟩ := u_known (C := RX11) (T := TX11) (N := 39) (n := 39) hts (fun w hw => (ab_in11 w hw).1) (hts _ (List.mem_of_getElem? (i := 1330) (by decide +kernel))); exact ⟨(x, y), fun q hq => by cases hq; exact hz⟩
    | n + 12 => exact ⟨(0, fun _ => 0), fun q hq => by simp [ab_cl] at hq⟩
  obtain ⟨z, hz⟩ := Classical.axiomOfChoice h0
  exact ⟨fun k => (z k).1, fun k => (z k).2, hz⟩
def st_ets : List FieldType := [.int, .long, .byte, .boolean, .object "FailDesk$House", .object "FailDesk$Dealer", .object "FailDesk$Sale"]
theorem st_et : ∀ k, k < 65 → ab_et k ∈ st_ets := by decide +kernel
theorem st_prim {ty : FieldType} (hm : (Cond.arrayClass ty).before #[Value.ref b] s = true) (hp : ty = .int ∨ ty = .long ∨ ty = .byte ∨ ty = .boolean) : ∃ cA, ArrOfT s cA ty ∧ va_RA s cA ty := by
  obtain ⟨c, k, comp, h1, h2, h3⟩ := Cond.arrayClass_spec hm
  refine ⟨c, fun n z => ⟨(fun _ q => by cases q), k, h2, comp, h3⟩, ?_⟩
  rcases hp with h | h | h | h <;> (subst h; exact h1)
theorem st_obj {C : String} (hm : (Cond.arrayOver (.object C)).before #[Value.ref b] s = true) : ∃ cA, ArrOfT s cA (.object C) ∧ va_RA s cA (.object C) := by
  obtain ⟨comp, c, k, h1, -, h3, h4, h5⟩ := Cond.arrayOver_spec hm
  exact ⟨c, fun n z => ⟨(fun _ q => by cases q), k, h3, comp, h4⟩, k, comp, h3, h4, h1, h5⟩
theorem st_arrs (hts : ∀ w ∈ lw_tbl, w.before #[Value.ref b] s = true) : ∃ cA : Nat → ClassId, ∀ k, 12 ≤ k → k < 65 → ArrOfT s (cA k) (ab_et k) ∧ va_RA s (cA k) (ab_et k) := by
  have h0 : ∀ k : Nat, ∃ c : ClassId, 12 ≤ k → k < 65 → ArrOfT s c (ab_et k) ∧ va_RA s c (ab_et k) := by
    intro k
    by_cases hk : k < 65
    · have h1 := st_et k hk
      have : ∃ c : ClassId, ArrOfT s c (ab_et k) ∧ va_RA s c (ab_et k) := by
        simp only [st_ets, List.mem_cons, List.not_mem_nil, or_false] at h1
        rcases h1 with h1 | h1 | h1 | h1 | h1 | h1 | h1 <;> rw [h1]
        · exact st_prim (hts _ (List.mem_of_getElem? (i := 392) (by decide +kernel))) (Or.inl rfl)
        · exact st_prim (hts _ (List.mem_of_getElem? (i := 440) (by decide +kernel))) (Or.inr (Or.inl rfl))
        · exact st_prim (hts _ (List.mem_of_getElem? (i := 203) (by decide +kernel))) (Or.inr (Or.inr (Or.inl rfl)))
        · exact st_prim (hts _ (List.mem_of_getElem? (i := 1455) (by decide +kernel))) (Or.inr (Or.inr (Or.inr rfl)))
        · exact st_obj (hts _ (List.mem_of_getElem? (i := 400) (by decide +kernel)))
        · exact st_obj (hts _ (List.mem_of_getElem? (i := 161) (by decide +kernel)))
        · exact st_obj (hts _ (List.mem_of_getElem? (i := 163) (by decide +kernel)))
      obtain ⟨c, hc⟩ := this
      exact ⟨c, fun _ _ => hc⟩
    · exact ⟨0, fun _ h => absurd h hk⟩
  obtain ⟨z, hz⟩ := Classical.axiomOfChoice h0
  exact ⟨z, hz⟩
theorem st_c0 : ∀ k, ab_ro k = false → c0 k = 0 := by
  intro k hk
  by_cases h : k < 65
  · have : ∀ k, k < 65 → ab_ro k = false → c0 k = 0 := by decide +kernel
    exact this k h hk
  · have : ab_ro k = true := by
      show (k == 15 || k == 63 || Nat.ble 65 k) = true
      rw [show Nat.ble 65 k = true from Nat.ble_eq_true_of_le (by omega), Bool.or_true]
    rw [this] at hk; cases hk
theorem st_cpos : ∀ k, 0 < c0 k → k = 15 ∨ k = 63 ∨ k = 100 ∨ k = 101 ∨ k = 102 := by
  intro k hk
  unfold c0 at hk
  split at hk <;> first | omega | exact absurd hk (by omega)
theorem st_one : ∀ k, k < 65 → c0 k ≤ 1 := by decide +kernel
/-- THE START -/
theorem st_go (hflags : l.flags = flags0) (hts : ∀ w ∈ lw_tbl, w.before #[Value.ref b] s = true) (h : (Jvm.Cond.and given_1 narrow_1).before #[Value.ref b] s = true) {L : Nat} {xs : Nat → Int32} (hX : va_X b L xs s s.heap) :
    ∃ (dC : Nat → ClassId) (dI : Nat → Nat → Nat) (cA : Nat → ClassId) (φ : Nat → Nat → Nat), ab_Z (l, s, dC, dI, cA, φ) ∧ ab_HR (l, s, dC, dI, cA, φ) φ (TT (T0 xs L) c0) s.heap ∧ φ 63 0 = b := by
  have hA : ∀ a : Nat, a < s.heap.size → ¬ (fun q : Nat => s.heap.size ≤ q) a := fun a ha q => absurd ha (Nat.not_lt.mpr q)
  obtain ⟨dC, dI, hK⟩ := st_cls hts
  obtain ⟨cA, hcA⟩ := st_arrs hts
  obtain ⟨adK, adV, hS, had⟩ := st_S h hA
  obtain ⟨scr, x1, x2, x3, x4, x5⟩ := hX
  -- NO_RULE
  have n1 : (Cond.arrayOf (Term.static "FailDesk$House" "NO_RULE" "[I") .int).before #[Value.ref b] s = true := st_at h 5 (by decide +kernel)
  have n2 : (Cond.eq (.length (Term.static "FailDesk$House" "NO_RULE" "[I")) (.int 0)).before #[Value.ref b] s = true := st_at h 6 (by decide +kernel)
  have n3 : (Cond.exactly (Term.static "FailDesk$House" "NO_RULE" "[I") "[I").before #[Value.ref b] s = true := st_at h 353 (by decide +kernel)
  obtain ⟨nr, hnr, nc, y1, y2, y3, y4, y5, -, -⟩ := va_Tof (N := 0) (f := fun _ => .null) (A := fun q : Nat => s.heap.size ≤ q) (by decide) n1 (va_eqt n2) (fun j hj => absurd hj (Nat.not_lt_zero _)) hA
  obtain ⟨nr2, ci, nc2, kc, z1, z2, z3, z4, z5, z6, -⟩ := Cond.exactly_spec n3
  cases hnr.symm.trans z1
  cases y1.symm.trans z3
  -- SIOOBE_FORMATTER
  have hq := va_Zqof (A := fun q : Nat => s.heap.size ≤ q) (hts (Cond.laysStatic "jdk/internal/util/Preconditions" "SIOOBE_FORMATTER" "Ljava/util/function/BiFunction;") (List.mem_of_getElem? (i := 793) (by decide +kernel))) (hts (Cond.initialized "jdk/internal/util/Preconditions") (List.mem_of_getElem? (i := 132) (by decide +kernel))) (st_at h 10 (by decide +kernel)) hA
  obtain ⟨fl, fa, hfm⟩ : ∃ fl fa : Nat, va_Z "jdk/internal/util/Preconditions" "SIOOBE_FORMATTER" "Ljava/util/function/BiFunction;" (if fl = 0 then .ref fa else .null) (fun q : Nat => s.heap.size ≤ q) s s.heap := by
    rcases hq with hq | ⟨t, hq⟩
    · exact ⟨1, 0, hq⟩
    · exact ⟨0, t, hq⟩
  refine ⟨dC, dI, fun k => if k = 63 then scr.cls else cA k, fun k i => if k = 63 then b else if k = 15 then nr else if k = 100 then adK i else if k = 102 then adV i else if k = 101 then (if i = 0 then fa else fl) else 0, ⟨?_, ⟨#[Value.ref b], hts⟩, ⟨hK, fun k h1 h2 => ?_⟩, hS, st_R h hts had, ?_, ?_, ?_, ?_, ?_⟩, ⟨fun _ _ => rfl, Nat.le_refl _, fun k i hi => ?_, fun k i k' i' _ _ _ hi' hr _ => ?_, fun k i hi hr => ?_, fun k i j x hi hx => ?_, fun _ _ => rfl, rfl⟩, rfl⟩
  · show (!l.flags.contains noTraceFlag) = false
    rw [hflags]
    decide +kernel
  · by_cases e : k = 63
    · subst e
      refine ⟨fun n z => ⟨(fun _ q => by cases q), ?_⟩, fun q => absurd rfl q⟩
      exact x2.2
    · show ArrOfT s (if k = 63 then scr.cls else cA k) (ab_et k) ∧ (k ≠ 63 → va_RA s (if k = 63 then scr.cls else cA k) (ab_et k))
      rw [if_neg e]
      exact ⟨(hcA k h1 h2).1, fun _ => (hcA k h1 h2).2⟩
  · exact va_Zof (hts (Cond.laysStatic "java/lang/String" "COMPACT_STRINGS" "Z") (List.mem_of_getElem? (i := 777) (by decide +kernel))) (hts (Cond.initialized "java/lang/String") (List.mem_of_getElem? (i := 130) (by decide +kernel))) (va_eqt (st_at h 9 (by decide +kernel))) hA
  · have e : ab_vl (fun k i => if k = 63 then b else if k = 15 then nr else if k = 100 then adK i else if k = 102 then adV i else if k = 101 then (if i = 0 then fa else fl) else 0) (sz (l, s, dC, dI, fun k => if k = 63 then scr.cls else cA k, fun k i => if k = 63 then b else if k = 15 then nr else if k = 100 then adK i else if k = 102 then adV i else if k = 101 then (if i = 0 then fa else fl) else 0)) = if fl = 0 then .ref fa else .null := by
      by_cases e : fl = 0
      · rw [if_pos e]
        unfold sz
        rw [show sq (l, s, dC, dI, fun k => if k = 63 then scr.cls else cA k, fun k i => if k = 63 then b else if k = 15 then nr else if k = 100 then adK i else if k = 102 then adV i else if k = 101 then (if i = 0 then fa else fl) else 0) = some (101, 0) from if_pos e]
        rfl
      · rw [if_neg e]
        unfold sz
        rw [show sq (l, s, dC, dI, fun k => if k = 63 then scr.cls else cA k, fun k i => if k = 63 then b else if k = 15 then nr else if k = 100 then adK i else if k = 102 then adV i else if k = 101 then (if i = 0 then fa else fl) else 0) = none from if_neg e]
        rfl
    exact e ▸ hfm
  · exact va_Zof (hts (Cond.laysStatic "FailDesk$House" "NO_RULE" "[I") (List.mem_of_getElem? (i := 165) (by decide +kernel))) (hts (Cond.initialized "FailDesk$House") (List.mem_of_getElem? (i := 115) (by decide +kernel))) hnr hA
  · exact vx_Zqof (hts _ (List.mem_of_getElem? (i := 701) (by decide +kernel))) (hts _ (List.mem_of_getElem? (i := 125) (by decide +kernel))) (st_at h 7 (by decide +kernel)) hA
  · exact vx_Zqof (hts _ (List.mem_of_getElem? (i := 703) (by decide +kernel))) (hts _ (List.mem_of_getElem? (i := 125) (by decide +kernel))) (st_at h 8 (by decide +kernel)) hA
  · have hi : i < c0 k := hi
    refine ⟨fun q hq => ?_, fun hk => ?_⟩
    · have h12 := (ab_cls k q hq).1
      have := st_cpos k (by omega)
      omega
    · have h01 := st_one k hk.2
      have hi0 : i = 0 := by omega
      subst hi0
      have := st_cpos k hi
      have hk2 : k = 15 ∨ k = 63 := by omega
      rcases hk2 with rfl | rfl
      · refine ⟨nc, y1, ?_, ⟨Nat.zero_le _, y5, fun j hj => absurd hj (Nat.not_lt_zero _)⟩, y3, y2.1, fun q => by cases q⟩
        rw [z6]
        have hr : s.vm.findClass "[I" = some (cA 15) := (hcA 15 (by decide) (by decide)).2
        exact Option.some.inj (z2.symm.trans hr)
      · refine ⟨scr, x1, rfl, ⟨Nat.le_of_eq x4.symm, by rw [x4]; rfl, fun j hj => ?_⟩, x3, x2.1, fun q => by cases q⟩
        exact x5 j hj
  · have hi' : i' < c0 k' := hi'
    rw [st_c0 k' hr] at hi'
    exact absurd hi' (Nat.not_lt_zero _)
  · have hi : i < c0 k := hi
    rw [st_c0 k hr] at hi
    exact absurd hi (Nat.not_lt_zero _)
  · have hi : i < c0 k := hi
    have hx : gd_R0 (fun _ => 0) k i j = some x := hx
    rcases st_cpos k (by omega) with rfl | rfl | rfl | rfl | rfl <;> cases hx
end SA
