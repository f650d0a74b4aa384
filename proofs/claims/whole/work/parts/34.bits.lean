/-! BITS -/
def bt (w : Int32) (z : Nat) : Bool := w.toBitVec.getLsbD z
theorem bt_or {a b : Int32} {z : Nat} : bt (a ||| b) z = (bt a z || bt b z) := by
  unfold bt; rw [Int32.toBitVec_or, BitVec.getLsbD_or]
theorem bt_and {a b : Int32} {z : Nat} : bt (a &&& b) z = (bt a z && bt b z) := by
  unfold bt; rw [Int32.toBitVec_and, BitVec.getLsbD_and]
theorem bt_0 {z : Nat} : bt 0 z = false := by
  unfold bt; rw [show (0 : Int32).toBitVec = 0#32 from rfl]; exact BitVec.getLsbD_zero
theorem bt_ext {a b : Int32} (h : ∀ z, z < 32 → bt a z = bt b z) : a = b := by
  apply Int32.toBitVec_inj.mp
  apply BitVec.eq_of_getLsbD_eq
  exact h
theorem bt_sm : ∀ z, z < 32 → ((nI z &&& 31 : Int32).toBitVec.smod 32).toNat = z := by decide +kernel
theorem bt_one : ∀ s, s < 32 → ∀ z, z < 32 → bt (1 <<< (nI s &&& 31)) z = decide (z = s) := by decide +kernel
theorem bt_test {w : Int32} {z : Nat} (hz : z < 32) : ((w >>> (nI z &&& 31)) &&& 1 : Int32) = 0 ↔ bt w z = false := by
  have e : ∀ k, k < 32 → bt ((w >>> (nI z &&& 31)) &&& 1) k = (decide (k = 0) && bt w z) := by
    intro k hk
    rw [bt_and]
    have e1 : bt 1 k = decide (k = 0) := by
      have := bt_one 0 (by decide) k hk
      exact this
    rw [e1, Bool.and_comm]
    cases hk0 : decide (k = 0) with
    | false => rfl
    | true =>
      have : k = 0 := of_decide_eq_true hk0
      subst this
      rw [Bool.true_and, Bool.true_and]
      unfold bt
      rw [Int32.toBitVec_shiftRight, BitVec.sshiftRight_eq', BitVec.getLsbD_sshiftRight, bt_sm z hz]
      simp [hz]
  constructor
  · intro h
    have := e 0 (by decide)
    rw [h, bt_0] at this
    simpa using this.symm
  · intro h
    apply bt_ext
    intro k hk
    rw [e k hk, h, bt_0, Bool.and_false]
