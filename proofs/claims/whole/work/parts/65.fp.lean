/-! DOUBLES from 1 on: exponent E, digits t -/
theorem fp_nat {n : Nat} (h : n < 18446744073709551616) : (UInt64.ofNat n).toNat = n := UInt64.toNat_ofNat_of_lt' h
theorem fp_dec {E t : Nat} (h1 : 1 ≤ E) (h2 : E ≤ 2046) (ht : t < 4503599627370496) : FP.Core.decode FP.Core.b64 (E * 4503599627370496 + t) = .fin false (4503599627370496 + t) (-1074 + ((E : Int) - 1)) := by
  have e1 : FP.Core.fieldE FP.Core.b64 (E * 4503599627370496 + t) = E := by
    show (E * 4503599627370496 + t) / 4503599627370496 % 2048 = E
    omega
  have e2 : FP.Core.fieldT FP.Core.b64 (E * 4503599627370496 + t) = t := by
    show (E * 4503599627370496 + t) % 4503599627370496 = t
    omega
  have e3 : FP.Core.fieldS FP.Core.b64 (E * 4503599627370496 + t) = false := by
    show ((E * 4503599627370496 + t) / 4503599627370496 / 2048 % 2 == 1) = false
    have : (E * 4503599627370496 + t) / 4503599627370496 / 2048 % 2 = 0 := by omega
    rw [this]; rfl
  unfold FP.Core.decode
  rw [e1, e2, e3, if_neg (by show ¬ E = 2047; omega), if_neg (by omega)]
  rfl
theorem fp_decU {E t : Nat} (h1 : 1 ≤ E) (h2 : E ≤ 2046) (ht : t < 4503599627370496) : FP.Core.decode FP.Core.b64 (UInt64.ofNat (E * 4503599627370496 + t)).toNat = .fin false (4503599627370496 + t) (-1074 + ((E : Int) - 1)) := by
  rw [fp_nat (by omega)]; exact fp_dec h1 h2 ht
theorem fp_enc {c : Nat} {q : Int} (h1 : 4503599627370496 ≤ c) : FP.Core.encode FP.Core.b64 (.fin false c q) = ((q + 1074).toNat + 1) * 4503599627370496 + (c - 4503599627370496) := by
  show (if c < 4503599627370496 then _ else FP.Core.assemble FP.Core.b64 false ((q - (-1074)).toNat + 1) (c - 4503599627370496)) = _
  rw [if_neg (by omega)]
  show (0 * 2048 + ((q - (-1074)).toNat + 1)) * 4503599627370496 + (c - 4503599627370496) = _
  omega
theorem fp_lead {c d : Nat} (hc1 : 4503599627370496 ≤ c) (hc2 : c < 9007199254740992) (hd1 : 4503599627370496 ≤ d) (hd2 : d < 9007199254740992) : FP.Core.leading c d = if d ≤ c then 0 else -1 := by
  have lc : c.log2 = 52 := (Nat.log2_eq_iff (by omega)).mpr ⟨by omega, by omega⟩
  have ld : d.log2 = 52 := (Nat.log2_eq_iff (by omega)).mpr ⟨by omega, by omega⟩
  unfold FP.Core.leading
  rw [lc, ld]
  show (if d * 2 ^ 0 ≤ c * 2 ^ 0 then (0 : Int) else -1) = _
  by_cases h : d ≤ c
  · rw [if_pos h]; exact if_pos (by omega)
  · rw [if_neg h]; exact if_neg (by omega)
theorem fp_rr {c d : Nat} {e : Int} (hc1 : 4503599627370496 ≤ c) (hc2 : c < 9007199254740992) (hd1 : 4503599627370496 ≤ d) (hd2 : d < 9007199254740992) (he1 : -1000 ≤ e) : FP.Core.roundRatio FP.Core.b64 false c d e = if d ≤ c then FP.Core.settle FP.Core.b64 false (FP.Core.nearest (c * 4503599627370496) d) (e - 52) else FP.Core.settle FP.Core.b64 false (FP.Core.nearest (c * 9007199254740992) d) (e - 53) := by
  unfold FP.Core.roundRatio
  rw [if_neg (by omega)]
  unfold FP.Core.roundAt FP.Core.quantum
  rw [fp_lead hc1 hc2 hd1 hd2]
  by_cases h : d ≤ c
  · rw [if_pos h, if_pos h]
    have eq : max FP.Core.b64.qmin ((0 : Int) + e - (((FP.Core.b64.p : Nat) : Int) - 1)) = e - 52 := by
      show max (-1074 : Int) (0 + e - (53 - 1)) = e - 52
      omega
    rw [eq]
    unfold FP.Core.unitsNum FP.Core.unitsDen
    rw [show (e - (e - 52)).toNat = 52 by omega, show (e - 52 - e).toNat = 0 by omega, Nat.pow_zero, Nat.mul_one]
  · rw [if_neg h, if_neg h]
    have eq : max FP.Core.b64.qmin ((-1 : Int) + e - (((FP.Core.b64.p : Nat) : Int) - 1)) = e - 53 := by
      show max (-1074 : Int) (-1 + e - (53 - 1)) = e - 53
      omega
    rw [eq]
    unfold FP.Core.unitsNum FP.Core.unitsDen
    rw [show (e - (e - 53)).toNat = 53 by omega, show (e - 53 - e).toNat = 0 by omega, Nat.pow_zero, Nat.mul_one]
theorem fp_settle {m : Nat} {q : Int} (h1 : 4503599627370496 ≤ m) (h2 : m ≤ 9007199254740992) (hq1 : -1074 ≤ q) (hq2 : q ≤ 900) : ∃ E t, FP.Core.encode FP.Core.b64 (FP.Core.settle FP.Core.b64 false m q) = E * 4503599627370496 + t ∧ t < 4503599627370496 ∧ ((E : Int) = q + 1075 ∨ ((E : Int) = q + 1076)) := by
  unfold FP.Core.settle
  by_cases h : m < 2 ^ FP.Core.b64.p
  · have h' : m < 9007199254740992 := h
    rw [if_pos h]
    unfold FP.Core.bound
    rw [if_pos (by show q ≤ 971; omega), fp_enc h1]
    exact ⟨(q + 1074).toNat + 1, m - 4503599627370496, rfl, by omega, by omega⟩
  · rw [if_neg h]
    unfold FP.Core.bound
    rw [if_pos (by show q + 1 ≤ 971; omega), fp_enc (by show _ ≤ 4503599627370496; omega)]
    exact ⟨(q + 1 + 1074).toNat + 1, 0, rfl, by omega, by omega⟩
theorem fp_near {n d m : Nat} (hd : 0 < d) (h1 : m * d ≤ n) (h2 : n < (m + m) * d) : m ≤ FP.Core.nearest n d ∧ FP.Core.nearest n d ≤ m + m := by
  have a : m ≤ n / d := (Nat.le_div_iff_mul_le hd).mpr h1
  have b : n / d < m + m := (Nat.div_lt_iff_lt_mul hd).mpr h2
  unfold FP.Core.nearest
  split
  · omega
  · split <;> omega
theorem fp_div {E1 E2 t1 t2 : Nat} (h1 : 1023 ≤ E1) (h1' : E1 ≤ 1080) (h2 : 1023 ≤ E2) (h2' : E2 ≤ 1080) (ht1 : t1 < 4503599627370496) (ht2 : t2 < 4503599627370496) (hE : E2 ≤ E1) (hc : E1 = E2 → t2 ≤ t1) : ∃ E t, FP.ddiv (UInt64.ofNat (E1 * 4503599627370496 + t1)) (UInt64.ofNat (E2 * 4503599627370496 + t2)) = UInt64.ofNat (E * 4503599627370496 + t) ∧ t < 4503599627370496 ∧ 1023 ≤ E ∧ E ≤ 1086 := by
  have key : ∃ E t, FP.Core.div FP.Core.b64 (UInt64.ofNat (E1 * 4503599627370496 + t1)).toNat (UInt64.ofNat (E2 * 4503599627370496 + t2)).toNat = E * 4503599627370496 + t ∧ t < 4503599627370496 ∧ 1023 ≤ E ∧ E ≤ 1086 := by
    unfold FP.Core.div
    rw [fp_decU (by omega) (by omega) ht1, fp_decU (by omega) (by omega) ht2]
    show ∃ E t, FP.Core.encode FP.Core.b64 (if 4503599627370496 + t2 = 0 then _ else FP.Core.roundRatio FP.Core.b64 false (4503599627370496 + t1) (4503599627370496 + t2) ((-1074 + ((E1 : Int) - 1)) - (-1074 + ((E2 : Int) - 1)))) = _ ∧ _
    rw [if_neg (by omega), fp_rr (by omega) (by omega) (by omega) (by omega) (by omega)]
    by_cases hd : 4503599627370496 + t2 ≤ 4503599627370496 + t1
    · rw [if_pos hd]
      have hn := fp_near (n := (4503599627370496 + t1) * 4503599627370496) (d := 4503599627370496 + t2) (m := 4503599627370496) (by omega) (by omega) (by omega)
      obtain ⟨E, t, e, ht, hE2⟩ := fp_settle (q := (-1074 + ((E1 : Int) - 1)) - (-1074 + ((E2 : Int) - 1)) - 52) hn.1 (by omega) (by omega) (by omega)
      exact ⟨E, t, e, ht, by omega, by omega⟩
    · rw [if_neg hd]
      have hn := fp_near (n := (4503599627370496 + t1) * 9007199254740992) (d := 4503599627370496 + t2) (m := 4503599627370496) (by omega) (by omega) (by omega)
      obtain ⟨E, t, e, ht, hE2⟩ := fp_settle (q := (-1074 + ((E1 : Int) - 1)) - (-1074 + ((E2 : Int) - 1)) - 53) hn.1 (by omega) (by omega) (by omega)
      have hne : ¬ E1 = E2 := fun q => hd (by have := hc q; omega)
      exact ⟨E, t, e, ht, by omega, by omega⟩
  obtain ⟨E, t, e, r⟩ := key
  exact ⟨E, t, congrArg UInt64.ofNat e, r⟩
theorem fp_near1 {c : Nat} : FP.Core.nearest (c * 4503599627370496) 4503599627370496 = c := by
  unfold FP.Core.nearest
  rw [Nat.mul_mod_left, if_pos (by omega)]
  omega
theorem fp_half {E t : Nat} (h1 : 1024 ≤ E) (h2 : E ≤ 1090) (ht : t < 4503599627370496) : FP.ddiv (UInt64.ofNat (E * 4503599627370496 + t)) (4611686018427387904 : UInt64) = UInt64.ofNat ((E - 1) * 4503599627370496 + t) := by
  have key : FP.Core.div FP.Core.b64 (UInt64.ofNat (E * 4503599627370496 + t)).toNat (4611686018427387904 : UInt64).toNat = (E - 1) * 4503599627370496 + t := by
    unfold FP.Core.div
    rw [fp_decU (by omega) (by omega) ht, show (4611686018427387904 : UInt64) = UInt64.ofNat (1024 * 4503599627370496 + 0) from rfl, fp_decU (by omega) (by omega) (by omega)]
    show FP.Core.encode FP.Core.b64 (if 4503599627370496 + 0 = 0 then (if 4503599627370496 + t = 0 then FP.Core.Datum.nan else .inf (false != false)) else FP.Core.roundRatio FP.Core.b64 false (4503599627370496 + t) (4503599627370496 + 0) ((-1074 + ((E : Int) - 1)) - (-1074 + (((1024 : Nat) : Int) - 1)))) = _
    rw [if_neg (by omega), fp_rr (by omega) (by omega) (by omega) (by omega) (by omega), if_pos (by omega), fp_near1]
    unfold FP.Core.settle
    rw [if_pos (by show _ < 9007199254740992; omega)]
    unfold FP.Core.bound
    rw [if_pos (by show _ ≤ (971 : Int); omega), fp_enc (by omega)]
    omega
  exact congrArg UInt64.ofNat key
theorem fp_mul {t : Nat} (ht : t < 4503599627370496) : FP.dmul (UInt64.ofNat (1023 * 4503599627370496 + t)) (FP.l2d 4503599627370496) = UInt64.ofNat (1075 * 4503599627370496 + t) := by
  have hl : FP.l2d 4503599627370496 = UInt64.ofNat (1075 * 4503599627370496 + 0) := by decide +kernel
  have key : FP.Core.mul FP.Core.b64 (UInt64.ofNat (1023 * 4503599627370496 + t)).toNat (UInt64.ofNat (1075 * 4503599627370496 + 0)).toNat = 1075 * 4503599627370496 + t := by
    unfold FP.Core.mul
    rw [fp_decU (by omega) (by omega) ht, fp_decU (by omega) (by omega) (by omega)]
    show FP.Core.encode FP.Core.b64 (FP.Core.roundRatio FP.Core.b64 false ((4503599627370496 + t) * (4503599627370496 + 0)) 1 ((-1074 + (((1023 : Nat) : Int) - 1)) + (-1074 + (((1075 : Nat) : Int) - 1)))) = _
    unfold FP.Core.roundRatio
    rw [if_neg (by omega), show ((-1074 + (((1023 : Nat) : Int) - 1)) + (-1074 + (((1075 : Nat) : Int) - 1))) = -52 by decide]
    have l1 : ((4503599627370496 + t) * (4503599627370496 + 0)).log2 = 104 := (Nat.log2_eq_iff (by omega)).mpr ⟨by omega, by omega⟩
    have l2 : (1 : Nat).log2 = 0 := by decide
    have ld : FP.Core.leading ((4503599627370496 + t) * (4503599627370496 + 0)) 1 = 104 := by
      unfold FP.Core.leading
      rw [l1, l2]
      show (if 1 * 2 ^ 104 ≤ _ * 2 ^ 0 then (104 : Int) else 103) = _
      rw [if_pos (by omega)]
    unfold FP.Core.roundAt FP.Core.quantum
    rw [ld]
    show FP.Core.encode FP.Core.b64 (FP.Core.settle FP.Core.b64 false (FP.Core.nearest (FP.Core.unitsNum _ (-52) 0) (FP.Core.unitsDen 1 (-52) 0)) 0) = _
    unfold FP.Core.unitsNum FP.Core.unitsDen
    rw [show ((-52 : Int) - 0).toNat = 0 by decide, show ((0 : Int) - (-52)).toNat = 52 by decide, Nat.pow_zero, Nat.mul_one, Nat.add_zero]
    show FP.Core.encode FP.Core.b64 (FP.Core.settle FP.Core.b64 false (FP.Core.nearest ((4503599627370496 + t) * 4503599627370496) 4503599627370496) 0) = _
    rw [fp_near1]
    unfold FP.Core.settle
    rw [if_pos (by show _ < 9007199254740992; omega)]
    unfold FP.Core.bound
    rw [if_pos (by show (0 : Int) ≤ (971 : Int); omega), fp_enc (by omega)]
    omega
  rw [hl]
  exact congrArg UInt64.ofNat key
theorem fp_d2l {t : Nat} (ht : t < 4503599627370496) : FP.d2l (UInt64.ofNat (1075 * 4503599627370496 + t)) = lN (4503599627370496 + t) := by
  show FP.Core.toL (FP.Core.decode FP.Core.b64 (UInt64.ofNat (1075 * 4503599627370496 + t)).toNat) = _
  rw [fp_decU (by omega) (by omega) ht]
  show Int64.ofInt (max (-2 ^ 63) (min (2 ^ 63 - 1) (((4503599627370496 + t) * 2 ^ 0 / 2 ^ 0 : Nat) : Int))) = _
  rw [Nat.pow_zero, Nat.mul_one, Nat.div_one]
  have e : max (-2 ^ 63) (min (2 ^ 63 - 1) ((4503599627370496 + t : Nat) : Int)) = ((4503599627370496 + t : Nat) : Int) := by omega
  rw [e]; rfl
theorem fp_clt {a b : Int} (h : a < b) : compare a b = .lt := by
  show compareOfLessAndEq a b = .lt
  unfold compareOfLessAndEq
  rw [if_pos h]
theorem fp_cge {a b : Int} (h : b ≤ a) : ¬ compare a b = .lt := by
  show ¬ compareOfLessAndEq a b = .lt
  unfold compareOfLessAndEq
  rw [if_neg (by omega)]
  split
  · exact fun q => by cases q
  · exact fun q => by cases q
theorem fp_ceq {a : Int} : compare a a = .eq := by
  show compareOfLessAndEq a a = .eq
  unfold compareOfLessAndEq
  rw [if_neg (by omega), if_pos rfl]
theorem fp_cmp {E t : Nat} (h1 : 1023 ≤ E) (h2 : E ≤ 1090) (ht : t < 4503599627370496) : (Op.cmpValue (FP.dcmp (UInt64.ofNat (E * 4503599627370496 + t)) (4611686018427387904 : UInt64)) .l < 0) ↔ E = 1023 := by
  have key : FP.dcmp (UInt64.ofNat (E * 4503599627370496 + t)) (4611686018427387904 : UInt64) = some (compare ((((4503599627370496 + t) * 2 ^ ((-1074 + ((E : Int) - 1)) - min (-1074 + ((E : Int) - 1)) (-51)).toNat : Nat) : Int)) (((4503599627370496 * 2 ^ ((-51 : Int) - min (-1074 + ((E : Int) - 1)) (-51)).toNat : Nat) : Int))) := by
    show FP.Core.order (FP.Core.decode FP.Core.b64 (UInt64.ofNat (E * 4503599627370496 + t)).toNat) (FP.Core.decode FP.Core.b64 (4611686018427387904 : UInt64).toNat) = _
    rw [fp_decU (by omega) (by omega) ht, show (4611686018427387904 : UInt64) = UInt64.ofNat (1024 * 4503599627370496 + 0) from rfl, fp_decU (by omega) (by omega) (by omega)]
    rfl
  rw [key]
  by_cases h : E = 1023
  · subst h
    rw [show min (-1074 + (((1023 : Nat) : Int) - 1)) (-51) = -52 by decide, show ((-1074 + (((1023 : Nat) : Int) - 1)) - (-52)).toNat = 0 by decide, show ((-51 : Int) - (-52)).toNat = 1 by decide]
    have c : compare (((4503599627370496 + t) * 2 ^ 0 : Nat) : Int) ((4503599627370496 * 2 ^ 1 : Nat) : Int) = .lt := fp_clt (by omega)
    rw [c]
    exact ⟨fun _ => rfl, fun _ => by decide⟩
  · rw [show min (-1074 + ((E : Int) - 1)) (-51) = -51 by omega, show ((-51 : Int) - (-51)).toNat = 0 by decide, Nat.pow_zero, Nat.mul_one]
    have hp := Nat.two_pow_pos ((-1074 + ((E : Int) - 1)) - (-51)).toNat
    have hm : 4503599627370496 ≤ (4503599627370496 + t) * 2 ^ ((-1074 + ((E : Int) - 1)) - (-51)).toNat := Nat.le_trans (by omega) (Nat.le_mul_of_pos_right (4503599627370496 + t) hp)
    have c : ¬ compare (((4503599627370496 + t) * 2 ^ ((-1074 + ((E : Int) - 1)) - (-51)).toNat : Nat) : Int) ((4503599627370496 : Nat) : Int) = .lt := fp_cge (by omega)
    refine ⟨fun q => ?_, fun q => absurd q h⟩
    cases hc : compare (((4503599627370496 + t) * 2 ^ ((-1074 + ((E : Int) - 1)) - (-51)).toNat : Nat) : Int) ((4503599627370496 : Nat) : Int) with
    | lt => exact absurd hc c
    | eq => rw [hc] at q; exact absurd q (by decide)
    | gt => rw [hc] at q; exact absurd q (by decide)
theorem fp_self {E t : Nat} (h1 : 1 ≤ E) (h2 : E ≤ 2046) (ht : t < 4503599627370496) : Op.cmpValue (FP.dcmp (UInt64.ofNat (E * 4503599627370496 + t)) (UInt64.ofNat (E * 4503599627370496 + t))) .l = (0 : Int32) := by
  have key : ∀ c q, FP.Core.order (.fin false c q) (.fin false c q) = some .eq := fun c q => by
    show some (compare _ _) = _
    rw [fp_ceq]
  have e : FP.dcmp (UInt64.ofNat (E * 4503599627370496 + t)) (UInt64.ofNat (E * 4503599627370496 + t)) = some .eq := by
    show FP.Core.order (FP.Core.decode FP.Core.b64 (UInt64.ofNat (E * 4503599627370496 + t)).toNat) (FP.Core.decode FP.Core.b64 (UInt64.ofNat (E * 4503599627370496 + t)).toNat) = _
    rw [fp_decU h1 h2 ht]; exact key _ _
  rw [e]; rfl
theorem fp_n {E t : Nat} (h2 : E ≤ 2046) (ht : t < 4503599627370496) : vf_n64 (UInt64.ofNat (E * 4503599627370496 + t)) := by
  unfold vf_n64
  rw [UInt64.le_iff_toNat_le, UInt64.toNat_and, fp_nat (by omega)]
  exact Nat.le_trans Nat.and_le_left (by show _ ≤ 9218868437227405312; omega)
/-- a whole number as a double -/
theorem fp_int {V : Nat} (h1 : 1 ≤ V) (h2 : V < 4503599627370496) : FP.Core.fromInt FP.Core.b64 (V : Int) = (1023 + V.log2) * 4503599627370496 + (V * 2 ^ (52 - V.log2) - 4503599627370496) ∧ 4503599627370496 ≤ V * 2 ^ (52 - V.log2) ∧ V * 2 ^ (52 - V.log2) < 9007199254740992 ∧ V.log2 ≤ 51 := by
  have lv := (Nat.log2_eq_iff (n := V) (k := V.log2) (by omega)).mp rfl
  have hL : V.log2 ≤ 51 := by
    apply Nat.le_of_not_lt
    intro h
    have := Nat.pow_le_pow_right (n := 2) (by decide) h
    omega
  have e1 : 2 ^ V.log2 * 2 ^ (52 - V.log2) = 4503599627370496 := by rw [← Nat.pow_add, show V.log2 + (52 - V.log2) = 52 by omega]
  have e2 : 2 ^ (V.log2 + 1) * 2 ^ (52 - V.log2) = 9007199254740992 := by rw [← Nat.pow_add, show V.log2 + 1 + (52 - V.log2) = 53 by omega]
  have a : 4503599627370496 ≤ V * 2 ^ (52 - V.log2) := by rw [← e1]; exact Nat.mul_le_mul_right _ lv.1
  have b : V * 2 ^ (52 - V.log2) < 9007199254740992 := by rw [← e2]; exact Nat.mul_lt_mul_of_pos_right lv.2 (Nat.two_pow_pos _)
  refine ⟨?_, a, b, hL⟩
  show FP.Core.encode FP.Core.b64 (FP.Core.roundRatio FP.Core.b64 (decide ((V : Int) < 0)) (V : Int).natAbs 1 0) = _
  rw [decide_eq_false (by omega), Int.natAbs_natCast]
  unfold FP.Core.roundRatio
  rw [if_neg (by omega)]
  have l2 : (1 : Nat).log2 = 0 := by decide
  have ld : FP.Core.leading V 1 = (V.log2 : Int) := by
    unfold FP.Core.leading
    rw [l2]
    show (if 1 * 2 ^ (((V.log2 : Nat) : Int) - 0).toNat ≤ V * 2 ^ (-(((V.log2 : Nat) : Int) - 0)).toNat then ((V.log2 : Nat) : Int) - 0 else _) = _
    rw [show (((V.log2 : Nat) : Int) - 0).toNat = V.log2 by omega, show (-(((V.log2 : Nat) : Int) - 0)).toNat = 0 by omega, Nat.pow_zero, Nat.mul_one, Nat.one_mul, if_pos lv.1]
    omega
  unfold FP.Core.roundAt FP.Core.quantum
  rw [ld]
  have eq : max FP.Core.b64.qmin ((V.log2 : Int) + 0 - (((FP.Core.b64.p : Nat) : Int) - 1)) = (V.log2 : Int) - 52 := by
    show max (-1074 : Int) ((V.log2 : Int) + 0 - (53 - 1)) = _
    omega
  rw [eq]
  unfold FP.Core.unitsNum FP.Core.unitsDen
  rw [show ((0 : Int) - ((V.log2 : Int) - 52)).toNat = 52 - V.log2 by omega, show (((V.log2 : Int) - 52) - 0).toNat = 0 by omega, Nat.pow_zero, Nat.mul_one]
  have near : FP.Core.nearest (V * 2 ^ (52 - V.log2)) 1 = V * 2 ^ (52 - V.log2) := by
    unfold FP.Core.nearest
    rw [Nat.mod_one, if_pos (by decide), Nat.div_one]
  rw [near]
  unfold FP.Core.settle
  rw [if_pos (by show _ < 9007199254740992; exact b)]
  unfold FP.Core.bound
  rw [if_pos (by show _ ≤ (971 : Int); omega), fp_enc a]
  omega
/-- the mean of whole numbers, from 1 on -/
theorem fp_mean {V U : Nat} (hU : 1 ≤ U) (hV : U ≤ V) (hV2 : V < 4503599627370496) : ∃ E t, FP.ddiv (UInt64.ofNat (FP.Core.fromInt FP.Core.b64 (V : Int))) (UInt64.ofNat (FP.Core.fromInt FP.Core.b64 (U : Int))) = UInt64.ofNat (E * 4503599627370496 + t) ∧ t < 4503599627370496 ∧ 1023 ≤ E ∧ E ≤ 1086 := by
  obtain ⟨a1, a2, a3, a4⟩ := fp_int (V := V) (by omega) hV2
  obtain ⟨b1, b2, b3, b4⟩ := fp_int (V := U) hU (by omega)
  rw [a1, b1]
  have lv := (Nat.log2_eq_iff (n := V) (k := V.log2) (by omega)).mp rfl
  have lu := (Nat.log2_eq_iff (n := U) (k := U.log2) (by omega)).mp rfl
  have hle : U.log2 ≤ V.log2 := by
    apply Nat.le_of_not_lt
    intro h
    have := Nat.pow_le_pow_right (n := 2) (by decide) h
    have h2 := lv.2
    omega
  refine fp_div (by omega) (by omega) (by omega) (by omega) (by omega) (by omega) (by omega) (fun e => ?_)
  have e : V.log2 = U.log2 := by omega
  rw [e]
  have := Nat.mul_le_mul_right (2 ^ (52 - U.log2)) hV
  omega
theorem fp_shl : ∀ E, E < 1100 → (lN E) <<< ((52 : Int32).toInt64 &&& 63) = lN (E * 4503599627370496) := by decide +kernel
