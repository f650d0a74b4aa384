/-! WORLDS BEHIND CONSTRUCTION: what was made by the constructors stays where it is; ints, longs, each house's code, the code arrays (how many, lengths), the script's length -/
abbrev gd_D : Type := (Nat → Nat → Nat → Int32) × (Nat → Nat → Nat → Int64) × (Nat → Nat) × Nat × (Nat → Nat) × Nat
def gd_R0 (C : Nat → Nat) (k i j : Nat) : Option Nat := match k with
  | 1 => (match j with | 0 => some i | _ => none)
  | 2 => (match j with | 0 => some i | 1 => some i | 10 => some (C i) | _ => none)
  | 3 => (match j with | 0 => some i | 1 => some i | 2 => some i | 3 => some i | 4 => some i | _ => none)
  | 4 => (match j with | 0 => some 1 | 1 => some 1 | 2 => some 1 | _ => none)
  | 5 => (match j with | 0 => some i | 1 => some i | 2 => some i | _ => none)
  | 6 => (match j with | 0 => some i | 1 => some i | 2 => some i | 3 => some i | 4 => some i | 5 => some i | 6 => some i | _ => none)
  | 7 => (match j with | 0 => some i | 1 => some 0 | 5 => some i | 6 => some i | 7 => some i | 8 => some i | _ => none)
  | 8 => (match j with | 0 => some i | 3 => some i | _ => none)
  | 10 => (match j with | 0 => some 0 | 1 => some 0 | 2 => some 9 | 3 => some 10 | 4 => some 0 | 5 => some 0 | 6 => some 0 | 7 => some 0 | 8 => some 0 | 9 => some 0 | _ => none)
  | 11 => (match j with | 1 => some i | 2 => some i | 3 => some i | 4 => some i | 5 => some i | 7 => some i | 8 => some i | 17 => some i | 18 => some i | 19 => some i | 20 => some i | 21 => some i | 23 => some i | 24 => some i | 25 => some i | 26 => some i | 27 => some i | 31 => some i | 32 => some i | 33 => some i | 34 => some i | 35 => some i | 36 => some i | 37 => some i | _ => none)
  | 12 => if j < 8 then some (1 + j) else none
  | 13 => if j < 8 then some (8 * i + j) else none
  | 14 => if j < 24 then some (24 * i + j) else none
  | _ => none
def gd_cnt (nc k : Nat) : Nat := match k with
  | 0 => 88
  | 1 => 1
  | 2 => 11
  | 3 => 1
  | 4 => 1
  | 5 => 2
  | 6 => 2
  | 7 => 1
  | 8 => 2
  | 9 => 264
  | 10 => 1
  | 11 => 1
  | 12 => 1
  | 13 => 11
  | 14 => 11
  | 16 => 1
  | 17 => 1
  | 18 => 1
  | 19 => 1
  | 20 => 1
  | 21 => 2
  | 22 => 2
  | 23 => 2
  | 24 => 2
  | 25 => 2
  | 26 => 2
  | 27 => 2
  | 28 => 2
  | 29 => 2
  | 30 => 2
  | 31 => 1
  | 32 => 1
  | 33 => 1
  | 34 => 1
  | 35 => 1
  | 36 => 2
  | 37 => 2
  | 38 => 1
  | 39 => 1
  | 40 => 1
  | 41 => 1
  | 42 => 1
  | 43 => 1
  | 44 => 1
  | 45 => 1
  | 46 => 1
  | 47 => 1
  | 48 => 1
  | 49 => 1
  | 50 => 1
  | 51 => 1
  | 52 => 1
  | 53 => 1
  | 54 => 1
  | 55 => 1
  | 56 => 1
  | 57 => 1
  | 58 => 1
  | 59 => 1
  | 60 => 1
  | 61 => 1
  | 62 => 1
  | 63 => 1
  | 64 => 1
  | 15 => nc
  | 100 => 14
  | 101 => 1
  | 102 => 14
  | _ => 0
def gd_len (lc : Nat → Nat) (sl k i : Nat) : Nat := match k with
  | 12 => 8
  | 13 => 8
  | 14 => 24
  | 16 => 24
  | 17 => 24
  | 18 => 8
  | 19 => 8
  | 20 => 8
  | 21 => 24
  | 22 => 24
  | 23 => 16
  | 24 => 24
  | 25 => 24
  | 26 => 48
  | 27 => 48
  | 28 => 8
  | 29 => 48
  | 30 => 24
  | 31 => 500
  | 32 => 501
  | 33 => 501
  | 34 => 501
  | 35 => 500
  | 36 => 8
  | 37 => 8
  | 38 => 3
  | 39 => 3
  | 40 => 773
  | 41 => 773
  | 42 => 773
  | 43 => 6184
  | 44 => 500
  | 45 => 500
  | 46 => 500
  | 47 => 24
  | 48 => 24
  | 49 => 8
  | 50 => 8
  | 51 => 576
  | 52 => 576
  | 53 => 24
  | 54 => 24
  | 55 => 24
  | 56 => 40
  | 57 => 40
  | 58 => 9
  | 59 => 40
  | 60 => 40
  | 61 => 40
  | 62 => 9
  | 64 => 1
  | 15 => lc i
  | 63 => sl
  | _ => 0
def gd_e (v : gd_D) : ab_W := (v.1, v.2.1, gd_R0 v.2.2.1, gd_cnt v.2.2.2.1, gd_len v.2.2.2.2.1 v.2.2.2.2.2)
def gd_sI (v : gd_D) (k i j : Nat) (x : Int32) : gd_D := (fun a b c => if a = k ∧ b = i ∧ c = j then x else v.1 a b c, v.2)
def gd_sJ (v : gd_D) (k i j : Nat) (x : Int64) : gd_D := (v.1, fun a b c => if a = k ∧ b = i ∧ c = j then x else v.2.1 a b c, v.2.2)
def gd_sC (v : gd_D) (h x : Nat) : gd_D := (v.1, v.2.1, fun a => if a = h then x else v.2.2.1 a, v.2.2.2)
def gd_Q (Q : ab_O → gd_D → Prop) : ab_O → ab_W → Prop := fun o w => ∃ v, w = gd_e v ∧ Q o v
def gd_G (g : ab_E) (M : ab_M) (d bc bs pc : Nat) (L : List (Nat × ab_V)) (st : List ab_V) (v : gd_D) (Q : ab_O → gd_D → Prop) : Prop := ab_G g M d bc bs pc L st (gd_e v) (gd_Q Q)
def gd_C (g : ab_E) (M : ab_M) (d mc ms : Nat) (args : List ab_V) (v : gd_D) (Q : ab_O → gd_D → Prop) : Prop := ab_C g M d mc ms args (gd_e v) (gd_Q Q)
section GD1
variable {g : ab_E} {M : ab_M} {d bc bs pc : Nat} {L : List (Nat × ab_V)} {st : List ab_V} {v : gd_D} {Q : ab_O → gd_D → Prop}
theorem gd_locals {L' : List (Nat × ab_V)} (ks : List Nat) (hk : ks.filterMap (fun k => L[k]?) = L') (k : gd_G g M d bc bs pc L' st v Q) : gd_G g M d bc bs pc L st v Q := ab_locals ks hk k
theorem gd_iconst {n : Int} {x9 : Int32} (hd : decode M.2.1 pc = .ok (.iconst n, 1)) (hv : Int32.ofInt n = x9) (k : gd_G g M d bc bs (pc + 1) L (zI x9 :: st) v Q) : gd_G g M d bc bs pc L st v Q := ab_iconst hd hv k
theorem gd_bipush {n : Int} {x9 : Int32} (hd : decode M.2.1 pc = .ok (.bipush n, 2)) (hv : (Int8.ofInt n).toInt32 = x9) (k : gd_G g M d bc bs (pc + 2) L (zI x9 :: st) v Q) : gd_G g M d bc bs pc L st v Q := ab_bipush hd hv k
theorem gd_sipush {n : Int} {x9 : Int32} (hd : decode M.2.1 pc = .ok (.sipush n, 3)) (hv : (Int16.ofInt n).toInt32 = x9) (k : gd_G g M d bc bs (pc + 3) L (zI x9 :: st) v Q) : gd_G g M d bc bs pc L st v Q := ab_sipush hd hv k
theorem gd_lconst {n : Fin 2} {x9 : Int64} (hd : decode M.2.1 pc = .ok (.lconst n, 1)) (hv : Int64.ofNat (n : Nat) = x9) (k : gd_G g M d bc bs (pc + 1) L (zJ x9 :: st) v Q) : gd_G g M d bc bs pc L st v Q := ab_lconst hd hv k
theorem gd_dconst0 (hd : decode M.2.1 pc = .ok (.dconst 0, 1)) (k : gd_G g M d bc bs (pc + 1) L (zD FP.dconst0 :: st) v Q) : gd_G g M d bc bs pc L st v Q := ab_dconst0 hd k
theorem gd_ldc {x9 : Int32} {idx : Nat} (hm : Cond.constant M.1.cls idx x9 ∈ lw_tbl) (hd : decode M.2.1 pc = .ok (.ldc idx, 2)) (k : gd_G g M d bc bs (pc + 2) L (zI x9 :: st) v Q) : gd_G g M d bc bs pc L st v Q := ab_ldc hm hd k
theorem gd_ldc2 {x9 : Int64} {idx : Nat} (hm : Cond.constantLong M.1.cls idx x9 ∈ lw_tbl) (hd : decode M.2.1 pc = .ok (.ldc2_w idx, 3)) (k : gd_G g M d bc bs (pc + 3) L (zJ x9 :: st) v Q) : gd_G g M d bc bs pc L st v Q := ab_ldc2 hm hd k
theorem gd_ldc2d {x9 : UInt64} {idx : Nat} (hm : Cond.constantDouble M.1.cls idx x9 ∈ lw_tbl) (hd : decode M.2.1 pc = .ok (.ldc2_w idx, 3)) (k : gd_G g M d bc bs (pc + 3) L (zD x9 :: st) v Q) : gd_G g M d bc bs pc L st v Q := ab_ldc2d hm hd k
theorem gd_iload_n {n : Fin 4} {i : Nat} {x : Int32} (j : Nat) (hd : decode M.2.1 pc = .ok (.iload_n n, 1)) (hi : (n : Nat) = i) (hl : L[j]? = some (i, zI x)) (k : gd_G g M d bc bs (pc + 1) L (zI x :: st) v Q) : gd_G g M d bc bs pc L st v Q := ab_iload_n j hd hi hl k
theorem gd_iload {i : Nat} {x : Int32} (j : Nat) (hd : decode M.2.1 pc = .ok (.iload i, 2)) (hl : L[j]? = some (i, zI x)) (k : gd_G g M d bc bs (pc + 2) L (zI x :: st) v Q) : gd_G g M d bc bs pc L st v Q := ab_iload j hd hl k
theorem gd_lload_n {n : Fin 4} {i : Nat} {x : Int64} (j : Nat) (hd : decode M.2.1 pc = .ok (.lload_n n, 1)) (hi : (n : Nat) = i) (hl : L[j]? = some (i, zJ x)) (k : gd_G g M d bc bs (pc + 1) L (zJ x :: st) v Q) : gd_G g M d bc bs pc L st v Q := ab_lload_n j hd hi hl k
theorem gd_lload {i : Nat} {x : Int64} (j : Nat) (hd : decode M.2.1 pc = .ok (.lload i, 2)) (hl : L[j]? = some (i, zJ x)) (k : gd_G g M d bc bs (pc + 2) L (zJ x :: st) v Q) : gd_G g M d bc bs pc L st v Q := ab_lload j hd hl k
theorem gd_dload_n {n : Fin 4} {i : Nat} {x : UInt64} (j : Nat) (hd : decode M.2.1 pc = .ok (.dload_n n, 1)) (hi : (n : Nat) = i) (hl : L[j]? = some (i, zD x)) (k : gd_G g M d bc bs (pc + 1) L (zD x :: st) v Q) : gd_G g M d bc bs pc L st v Q := ab_dload_n j hd hi hl k
theorem gd_dload {i : Nat} {x : UInt64} (j : Nat) (hd : decode M.2.1 pc = .ok (.dload i, 2)) (hl : L[j]? = some (i, zD x)) (k : gd_G g M d bc bs (pc + 2) L (zD x :: st) v Q) : gd_G g M d bc bs pc L st v Q := ab_dload j hd hl k
theorem gd_aload_n {n : Fin 4} {i a b : Nat} (j : Nat) (hd : decode M.2.1 pc = .ok (.aload_n n, 1)) (hi : (n : Nat) = i) (hl : L[j]? = some (i, zR a b)) (k : gd_G g M d bc bs (pc + 1) L (zR a b :: st) v Q) : gd_G g M d bc bs pc L st v Q := ab_aload_n j hd hi hl k
theorem gd_aload {i a b : Nat} (j : Nat) (hd : decode M.2.1 pc = .ok (.aload i, 2)) (hl : L[j]? = some (i, zR a b)) (k : gd_G g M d bc bs (pc + 2) L (zR a b :: st) v Q) : gd_G g M d bc bs pc L st v Q := ab_aload j hd hl k
theorem gd_iadd {x y : Int32} (hd : decode M.2.1 pc = .ok (.iadd, 1)) (k : gd_G g M d bc bs (pc + 1) L (zI (x + y) :: st) v Q) : gd_G g M d bc bs pc L (zI y :: zI x :: st) v Q := ab_iadd hd k
theorem gd_isub {x y : Int32} (hd : decode M.2.1 pc = .ok (.isub, 1)) (k : gd_G g M d bc bs (pc + 1) L (zI (x - y) :: st) v Q) : gd_G g M d bc bs pc L (zI y :: zI x :: st) v Q := ab_isub hd k
theorem gd_imul {x y : Int32} (hd : decode M.2.1 pc = .ok (.imul, 1)) (k : gd_G g M d bc bs (pc + 1) L (zI (x * y) :: st) v Q) : gd_G g M d bc bs pc L (zI y :: zI x :: st) v Q := ab_imul hd k
theorem gd_iand {x y : Int32} (hd : decode M.2.1 pc = .ok (.iand, 1)) (k : gd_G g M d bc bs (pc + 1) L (zI (x &&& y) :: st) v Q) : gd_G g M d bc bs pc L (zI y :: zI x :: st) v Q := ab_iand hd k
theorem gd_ior {x y : Int32} (hd : decode M.2.1 pc = .ok (.ior, 1)) (k : gd_G g M d bc bs (pc + 1) L (zI (x ||| y) :: st) v Q) : gd_G g M d bc bs pc L (zI y :: zI x :: st) v Q := ab_ior hd k
theorem gd_ishl {x y : Int32} (hd : decode M.2.1 pc = .ok (.ishl, 1)) (k : gd_G g M d bc bs (pc + 1) L (zI (x <<< (y &&& 31)) :: st) v Q) : gd_G g M d bc bs pc L (zI y :: zI x :: st) v Q := ab_ishl hd k
theorem gd_ishr {x y : Int32} (hd : decode M.2.1 pc = .ok (.ishr, 1)) (k : gd_G g M d bc bs (pc + 1) L (zI (x >>> (y &&& 31)) :: st) v Q) : gd_G g M d bc bs pc L (zI y :: zI x :: st) v Q := ab_ishr hd k
theorem gd_ineg {x : Int32} (hd : decode M.2.1 pc = .ok (.ineg, 1)) (k : gd_G g M d bc bs (pc + 1) L (zI (-x) :: st) v Q) : gd_G g M d bc bs pc L (zI x :: st) v Q := ab_ineg hd k
theorem gd_irem {x y : Int32} (hd : decode M.2.1 pc = .ok (.irem, 1)) (hne : ¬ y = 0) (k : gd_G g M d bc bs (pc + 1) L (zI (x - x / y * y) :: st) v Q) : gd_G g M d bc bs pc L (zI y :: zI x :: st) v Q := ab_irem hd hne k
theorem gd_ladd {x y : Int64} (hd : decode M.2.1 pc = .ok (.ladd, 1)) (k : gd_G g M d bc bs (pc + 1) L (zJ (x + y) :: st) v Q) : gd_G g M d bc bs pc L (zJ y :: zJ x :: st) v Q := ab_ladd hd k
theorem gd_lsub {x y : Int64} (hd : decode M.2.1 pc = .ok (.lsub, 1)) (k : gd_G g M d bc bs (pc + 1) L (zJ (x - y) :: st) v Q) : gd_G g M d bc bs pc L (zJ y :: zJ x :: st) v Q := ab_lsub hd k
theorem gd_lmul {x y : Int64} (hd : decode M.2.1 pc = .ok (.lmul, 1)) (k : gd_G g M d bc bs (pc + 1) L (zJ (x * y) :: st) v Q) : gd_G g M d bc bs pc L (zJ y :: zJ x :: st) v Q := ab_lmul hd k
theorem gd_lneg {x : Int64} (hd : decode M.2.1 pc = .ok (.lneg, 1)) (k : gd_G g M d bc bs (pc + 1) L (zJ (-x) :: st) v Q) : gd_G g M d bc bs pc L (zJ x :: st) v Q := ab_lneg hd k
theorem gd_ldiv {x y : Int64} (hd : decode M.2.1 pc = .ok (.ldiv, 1)) (hne : ¬ y = 0) (k : gd_G g M d bc bs (pc + 1) L (zJ (x / y) :: st) v Q) : gd_G g M d bc bs pc L (zJ y :: zJ x :: st) v Q := ab_ldiv hd hne k
theorem gd_lrem {x y : Int64} (hd : decode M.2.1 pc = .ok (.lrem, 1)) (hne : ¬ y = 0) (k : gd_G g M d bc bs (pc + 1) L (zJ (x - x / y * y) :: st) v Q) : gd_G g M d bc bs pc L (zJ y :: zJ x :: st) v Q := ab_lrem hd hne k
theorem gd_lshl {x : Int64} {y : Int32} (hd : decode M.2.1 pc = .ok (.lshl, 1)) (k : gd_G g M d bc bs (pc + 1) L (zJ (x <<< (y.toInt64 &&& 63)) :: st) v Q) : gd_G g M d bc bs pc L (zI y :: zJ x :: st) v Q := ab_lshl hd k
theorem gd_lcmp {x y : Int64} (hd : decode M.2.1 pc = .ok (.lcmp, 1)) (k : gd_G g M d bc bs (pc + 1) L (zI (lg_cmp x y) :: st) v Q) : gd_G g M d bc bs pc L (zJ y :: zJ x :: st) v Q := ab_lcmp hd k
theorem gd_l2i {x : Int64} (hd : decode M.2.1 pc = .ok (.l2i, 1)) (k : gd_G g M d bc bs (pc + 1) L (zI x.toInt32 :: st) v Q) : gd_G g M d bc bs pc L (zJ x :: st) v Q := ab_l2i hd k
theorem gd_i2l {x : Int32} (hd : decode M.2.1 pc = .ok (.i2l, 1)) (k : gd_G g M d bc bs (pc + 1) L (zJ x.toInt64 :: st) v Q) : gd_G g M d bc bs pc L (zI x :: st) v Q := ab_i2l hd k
theorem gd_i2b {x : Int32} (hd : decode M.2.1 pc = .ok (.i2b, 1)) (k : gd_G g M d bc bs (pc + 1) L (zI x.toInt8.toInt32 :: st) v Q) : gd_G g M d bc bs pc L (zI x :: st) v Q := ab_i2b hd k
theorem gd_i2d {x : Int32} (hd : decode M.2.1 pc = .ok (.i2d, 1)) (k : gd_G g M d bc bs (pc + 1) L (zD (FP.i2d x) :: st) v Q) : gd_G g M d bc bs pc L (zI x :: st) v Q := ab_i2d hd k
theorem gd_l2d {x : Int64} (hd : decode M.2.1 pc = .ok (.l2d, 1)) (k : gd_G g M d bc bs (pc + 1) L (zD (FP.l2d x) :: st) v Q) : gd_G g M d bc bs pc L (zJ x :: st) v Q := ab_l2d hd k
theorem gd_d2l {x : UInt64} (hd : decode M.2.1 pc = .ok (.d2l, 1)) (k : gd_G g M d bc bs (pc + 1) L (zJ (FP.d2l x) :: st) v Q) : gd_G g M d bc bs pc L (zD x :: st) v Q := ab_d2l hd k
theorem gd_dmul {x y : UInt64} (hd : decode M.2.1 pc = .ok (.dmul, 1)) (hne : vf_n64 (FP.dmul x y)) (k : gd_G g M d bc bs (pc + 1) L (zD (FP.dmul x y) :: st) v Q) : gd_G g M d bc bs pc L (zD y :: zD x :: st) v Q := ab_dmul hd hne k
theorem gd_ddiv {x y : UInt64} (hd : decode M.2.1 pc = .ok (.ddiv, 1)) (hne : vf_n64 (FP.ddiv x y)) (k : gd_G g M d bc bs (pc + 1) L (zD (FP.ddiv x y) :: st) v Q) : gd_G g M d bc bs pc L (zD y :: zD x :: st) v Q := ab_ddiv hd hne k
theorem gd_dcmp {x y : UInt64} {op : CmpOp} (hd : decode M.2.1 pc = .ok (.dcmp op, 1)) (k : gd_G g M d bc bs (pc + 1) L (zI (Op.cmpValue (FP.dcmp x y) op) :: st) v Q) : gd_G g M d bc bs pc L (zD y :: zD x :: st) v Q := ab_dcmp hd k
theorem gd_dup {x9 : ab_V} (hd : decode M.2.1 pc = .ok (.dup, 1)) (hv : ab_cat x9 = 1) (k : gd_G g M d bc bs (pc + 1) L (x9 :: x9 :: st) v Q) : gd_G g M d bc bs pc L (x9 :: st) v Q := ab_dup hd hv k
theorem gd_dup2_2 {x9 : ab_V} (hd : decode M.2.1 pc = .ok (.dup2, 1)) (hv : ab_cat x9 = 2) (k : gd_G g M d bc bs (pc + 1) L (x9 :: x9 :: st) v Q) : gd_G g M d bc bs pc L (x9 :: st) v Q := ab_dup2_2 hd hv k
theorem gd_dup2_11 {u x9 : ab_V} (hd : decode M.2.1 pc = .ok (.dup2, 1)) (hv : ab_cat u = 1) (hv2 : ab_cat x9 = 1) (k : gd_G g M d bc bs (pc + 1) L (u :: x9 :: u :: x9 :: st) v Q) : gd_G g M d bc bs pc L (u :: x9 :: st) v Q := ab_dup2_11 hd hv hv2 k
theorem gd_pop {x9 : ab_V} (hd : decode M.2.1 pc = .ok (.pop, 1)) (hv : ab_cat x9 = 1) (k : gd_G g M d bc bs (pc + 1) L st v Q) : gd_G g M d bc bs pc L (x9 :: st) v Q := ab_pop hd hv k
theorem gd_goto {off : Int} {tgt : Nat} (hd : decode M.2.1 pc = .ok (.goto off, 3)) (ht : (pc : Int) + off = (tgt : Int)) (k : gd_G g M d bc bs tgt L st v Q) : gd_G g M d bc bs pc L st v Q := ab_goto hd ht k
theorem gd_if_eq {x : Int32} {off : Int} {tgt : Nat} (hd : decode M.2.1 pc = .ok (.ifCond .eq off, 3)) (ht : (pc : Int) + off = (tgt : Int)) (kt : x = 0 → gd_G g M d bc bs tgt L st v Q) (kf : ¬ x = 0 → gd_G g M d bc bs (pc + 3) L st v Q) : gd_G g M d bc bs pc L (zI x :: st) v Q := ab_if_eq hd ht kt kf
theorem gd_icmp_eq {x y : Int32} {off : Int} {tgt : Nat} (hd : decode M.2.1 pc = .ok (.if_icmp .eq off, 3)) (ht : (pc : Int) + off = (tgt : Int)) (kt : x = y → gd_G g M d bc bs tgt L st v Q) (kf : ¬ x = y → gd_G g M d bc bs (pc + 3) L st v Q) : gd_G g M d bc bs pc L (zI y :: zI x :: st) v Q := ab_icmp_eq hd ht kt kf
theorem gd_if_ne {x : Int32} {off : Int} {tgt : Nat} (hd : decode M.2.1 pc = .ok (.ifCond .ne off, 3)) (ht : (pc : Int) + off = (tgt : Int)) (kt : ¬ x = 0 → gd_G g M d bc bs tgt L st v Q) (kf : x = 0 → gd_G g M d bc bs (pc + 3) L st v Q) : gd_G g M d bc bs pc L (zI x :: st) v Q := ab_if_ne hd ht kt kf
theorem gd_icmp_ne {x y : Int32} {off : Int} {tgt : Nat} (hd : decode M.2.1 pc = .ok (.if_icmp .ne off, 3)) (ht : (pc : Int) + off = (tgt : Int)) (kt : ¬ x = y → gd_G g M d bc bs tgt L st v Q) (kf : x = y → gd_G g M d bc bs (pc + 3) L st v Q) : gd_G g M d bc bs pc L (zI y :: zI x :: st) v Q := ab_icmp_ne hd ht kt kf
theorem gd_if_lt {x : Int32} {off : Int} {tgt : Nat} (hd : decode M.2.1 pc = .ok (.ifCond .lt off, 3)) (ht : (pc : Int) + off = (tgt : Int)) (kt : x < 0 → gd_G g M d bc bs tgt L st v Q) (kf : ¬ x < 0 → gd_G g M d bc bs (pc + 3) L st v Q) : gd_G g M d bc bs pc L (zI x :: st) v Q := ab_if_lt hd ht kt kf
theorem gd_icmp_lt {x y : Int32} {off : Int} {tgt : Nat} (hd : decode M.2.1 pc = .ok (.if_icmp .lt off, 3)) (ht : (pc : Int) + off = (tgt : Int)) (kt : x < y → gd_G g M d bc bs tgt L st v Q) (kf : ¬ x < y → gd_G g M d bc bs (pc + 3) L st v Q) : gd_G g M d bc bs pc L (zI y :: zI x :: st) v Q := ab_icmp_lt hd ht kt kf
theorem gd_if_ge {x : Int32} {off : Int} {tgt : Nat} (hd : decode M.2.1 pc = .ok (.ifCond .ge off, 3)) (ht : (pc : Int) + off = (tgt : Int)) (kt : 0 ≤ x → gd_G g M d bc bs tgt L st v Q) (kf : ¬ 0 ≤ x → gd_G g M d bc bs (pc + 3) L st v Q) : gd_G g M d bc bs pc L (zI x :: st) v Q := ab_if_ge hd ht kt kf
theorem gd_icmp_ge {x y : Int32} {off : Int} {tgt : Nat} (hd : decode M.2.1 pc = .ok (.if_icmp .ge off, 3)) (ht : (pc : Int) + off = (tgt : Int)) (kt : y ≤ x → gd_G g M d bc bs tgt L st v Q) (kf : ¬ y ≤ x → gd_G g M d bc bs (pc + 3) L st v Q) : gd_G g M d bc bs pc L (zI y :: zI x :: st) v Q := ab_icmp_ge hd ht kt kf
theorem gd_if_gt {x : Int32} {off : Int} {tgt : Nat} (hd : decode M.2.1 pc = .ok (.ifCond .gt off, 3)) (ht : (pc : Int) + off = (tgt : Int)) (kt : 0 < x → gd_G g M d bc bs tgt L st v Q) (kf : ¬ 0 < x → gd_G g M d bc bs (pc + 3) L st v Q) : gd_G g M d bc bs pc L (zI x :: st) v Q := ab_if_gt hd ht kt kf
theorem gd_icmp_gt {x y : Int32} {off : Int} {tgt : Nat} (hd : decode M.2.1 pc = .ok (.if_icmp .gt off, 3)) (ht : (pc : Int) + off = (tgt : Int)) (kt : y < x → gd_G g M d bc bs tgt L st v Q) (kf : ¬ y < x → gd_G g M d bc bs (pc + 3) L st v Q) : gd_G g M d bc bs pc L (zI y :: zI x :: st) v Q := ab_icmp_gt hd ht kt kf
theorem gd_if_le {x : Int32} {off : Int} {tgt : Nat} (hd : decode M.2.1 pc = .ok (.ifCond .le off, 3)) (ht : (pc : Int) + off = (tgt : Int)) (kt : x ≤ 0 → gd_G g M d bc bs tgt L st v Q) (kf : ¬ x ≤ 0 → gd_G g M d bc bs (pc + 3) L st v Q) : gd_G g M d bc bs pc L (zI x :: st) v Q := ab_if_le hd ht kt kf
theorem gd_icmp_le {x y : Int32} {off : Int} {tgt : Nat} (hd : decode M.2.1 pc = .ok (.if_icmp .le off, 3)) (ht : (pc : Int) + off = (tgt : Int)) (kt : x ≤ y → gd_G g M d bc bs tgt L st v Q) (kf : ¬ x ≤ y → gd_G g M d bc bs (pc + 3) L st v Q) : gd_G g M d bc bs pc L (zI y :: zI x :: st) v Q := ab_icmp_le hd ht kt kf
theorem gd_tableOut {dflt lo hi : Int} {offs : Array Int} {len : Nat} {x : Int32} {tgt : Nat} (hd : decode M.2.1 pc = .ok (.tableswitch dflt lo hi offs, len)) (h : x.toInt < lo ∨ hi < x.toInt) (ht : (pc : Int) + dflt = (tgt : Int)) (k : gd_G g M d bc bs tgt L st v Q) : gd_G g M d bc bs pc L (zI x :: st) v Q := ab_tableOut hd h ht k
theorem gd_tableIn {dflt lo hi : Int} {offs : Array Int} {len : Nat} {x : Int32} {off : Int} {tgt : Nat} (hd : decode M.2.1 pc = .ok (.tableswitch dflt lo hi offs, len)) (h1 : ¬ x.toInt < lo) (h2 : ¬ hi < x.toInt) (ho : offs[(x.toInt - lo).toNat]? = some off) (ht : (pc : Int) + off = (tgt : Int)) (k : gd_G g M d bc bs tgt L st v Q) : gd_G g M d bc bs pc L (zI x :: st) v Q := ab_tableIn hd h1 h2 ho ht k
theorem gd_istore_n {n : Fin 4} {i : Nat} {x : Int32} {L' : List (Nat × ab_V)} (hd : decode M.2.1 pc = .ok (.istore_n n, 1)) (hi : (n : Nat) = i) (hn : i < M.2.2.1) (hl : (i, zI x) :: L.filter (ab_f1 i) = L') (k : gd_G g M d bc bs (pc + 1) L' st v Q) : gd_G g M d bc bs pc L (zI x :: st) v Q := ab_istore_n hd hi hn hl k
theorem gd_istore {i : Nat} {x : Int32} {L' : List (Nat × ab_V)} (hd : decode M.2.1 pc = .ok (.istore i, 2)) (hn : i < M.2.2.1) (hl : (i, zI x) :: L.filter (ab_f1 i) = L') (k : gd_G g M d bc bs (pc + 2) L' st v Q) : gd_G g M d bc bs pc L (zI x :: st) v Q := ab_istore hd hn hl k
theorem gd_lstore_n {n : Fin 4} {i : Nat} {x : Int64} {L' : List (Nat × ab_V)} (hd : decode M.2.1 pc = .ok (.lstore_n n, 1)) (hi : (n : Nat) = i) (hn : i + 1 < M.2.2.1) (hl : (i, zJ x) :: L.filter (ab_f2 i) = L') (k : gd_G g M d bc bs (pc + 1) L' st v Q) : gd_G g M d bc bs pc L (zJ x :: st) v Q := ab_lstore_n hd hi hn hl k
theorem gd_lstore {i : Nat} {x : Int64} {L' : List (Nat × ab_V)} (hd : decode M.2.1 pc = .ok (.lstore i, 2)) (hn : i + 1 < M.2.2.1) (hl : (i, zJ x) :: L.filter (ab_f2 i) = L') (k : gd_G g M d bc bs (pc + 2) L' st v Q) : gd_G g M d bc bs pc L (zJ x :: st) v Q := ab_lstore hd hn hl k
theorem gd_astore_n {n : Fin 4} {i : Nat} {x y : Nat} {L' : List (Nat × ab_V)} (hd : decode M.2.1 pc = .ok (.astore_n n, 1)) (hi : (n : Nat) = i) (hn : i < M.2.2.1) (hl : (i, zR x y) :: L.filter (ab_f1 i) = L') (k : gd_G g M d bc bs (pc + 1) L' st v Q) : gd_G g M d bc bs pc L (zR x y :: st) v Q := ab_astore_n hd hi hn hl k
theorem gd_astore {i : Nat} {x y : Nat} {L' : List (Nat × ab_V)} (hd : decode M.2.1 pc = .ok (.astore i, 2)) (hn : i < M.2.2.1) (hl : (i, zR x y) :: L.filter (ab_f1 i) = L') (k : gd_G g M d bc bs (pc + 2) L' st v Q) : gd_G g M d bc bs pc L (zR x y :: st) v Q := ab_astore hd hn hl k
theorem gd_dstore_n {n : Fin 4} {i : Nat} {x : UInt64} {L' : List (Nat × ab_V)} (hd : decode M.2.1 pc = .ok (.dstore_n n, 1)) (hi : (n : Nat) = i) (hn : i + 1 < M.2.2.1) (hl : (i, zD x) :: L.filter (ab_f2 i) = L') (k : gd_G g M d bc bs (pc + 1) L' st v Q) : gd_G g M d bc bs pc L (zD x :: st) v Q := ab_dstore_n hd hi hn hl k
theorem gd_dstore {i : Nat} {x : UInt64} {L' : List (Nat × ab_V)} (hd : decode M.2.1 pc = .ok (.dstore i, 2)) (hn : i + 1 < M.2.2.1) (hl : (i, zD x) :: L.filter (ab_f2 i) = L') (k : gd_G g M d bc bs (pc + 2) L' st v Q) : gd_G g M d bc bs pc L (zD x :: st) v Q := ab_dstore hd hn hl k
theorem gd_iinc {i : Nat} {n : Int} {x x9 : Int32} {L' : List (Nat × ab_V)} (j : Nat) (hd : decode M.2.1 pc = .ok (.iinc i n, 3)) (hj : L[j]? = some (i, zI x)) (hv : x + Int32.ofInt n = x9) (hn : i < M.2.2.1) (hl : (i, zI x9) :: L.filter (ab_f1 i) = L') (k : gd_G g M d bc bs (pc + 3) L' st v Q) : gd_G g M d bc bs pc L st v Q := ab_iinc j hd hj hv hn hl k
theorem gd_getI {k i j idx : Nat} {fin : Bool} (hf : ab_fl M.1.cls idx k j fin) (ht : ab_ty k j = .int) (hd : decode M.2.1 pc = .ok (.getfield idx, 3)) (kk : gd_G g M d bc bs (pc + 3) L (zI (v.1 k i j) :: st) v Q) : gd_G g M d bc bs pc L (zR k i :: st) v Q := ab_getI hf ht hd kk
theorem gd_getJ {k i j idx : Nat} {fin : Bool} (hf : ab_fl M.1.cls idx k j fin) (ht : ab_ty k j = .long) (hd : decode M.2.1 pc = .ok (.getfield idx, 3)) (kk : gd_G g M d bc bs (pc + 3) L (zJ (v.2.1 k i j) :: st) v Q) : gd_G g M d bc bs pc L (zR k i :: st) v Q := ab_getJ hf ht hd kk
theorem gd_getR {k i j idx x kr : Nat} {fin : Bool} (hf : ab_fl M.1.cls idx k j fin) (ht : ab_isR (ab_ty k j) = true) (hr : ab_rt k j = kr) (hd : decode M.2.1 pc = .ok (.getfield idx, 3)) (hx : (gd_e v).2.2.1 k i j = some x) (kk : gd_G g M d bc bs (pc + 3) L (zR kr x :: st) v Q) : gd_G g M d bc bs pc L (zR k i :: st) v Q := ab_getR hf ht hr hd hx kk
theorem gd_putI {k i j idx : Nat} {x : Int32} (hf : ab_fl M.1.cls idx k j false) (ht : ab_ty k j = .int) (hro : ab_ro k = false) (hd : decode M.2.1 pc = .ok (.putfield idx, 3)) (kk : gd_G g M d bc bs (pc + 3) L st (gd_sI v k i j x) Q) : gd_G g M d bc bs pc L (zI x :: zR k i :: st) v Q := ab_putI hf ht hro hd kk
theorem gd_putJ {k i j idx : Nat} {x : Int64} (hf : ab_fl M.1.cls idx k j false) (ht : ab_ty k j = .long) (hro : ab_ro k = false) (hd : decode M.2.1 pc = .ok (.putfield idx, 3)) (kk : gd_G g M d bc bs (pc + 3) L st (gd_sJ v k i j x) Q) : gd_G g M d bc bs pc L (zJ x :: zR k i :: st) v Q := ab_putJ hf ht hro hd kk
theorem gd_iaload {k i n : Nat} {x : Int32} (hk : 12 ≤ k ∧ k < 65) (ht : ab_et k = .int) (hd : decode M.2.1 pc = .ok (.iaload, 1)) (hn : (gd_e v).2.2.2.2 k i = n) (hin : vp_in x n) (kk : gd_G g M d bc bs (pc + 1) L (zI (v.1 k i x.toNatClampNeg) :: st) v Q) : gd_G g M d bc bs pc L (zI x :: zR k i :: st) v Q := ab_iaload hk ht hd hn hin kk
theorem gd_laload {k i n : Nat} {x : Int32} (hk : 12 ≤ k ∧ k < 65) (ht : ab_et k = .long) (hd : decode M.2.1 pc = .ok (.laload, 1)) (hn : (gd_e v).2.2.2.2 k i = n) (hin : vp_in x n) (kk : gd_G g M d bc bs (pc + 1) L (zJ (v.2.1 k i x.toNatClampNeg) :: st) v Q) : gd_G g M d bc bs pc L (zI x :: zR k i :: st) v Q := ab_laload hk ht hd hn hin kk
theorem gd_baload {k i n : Nat} {x : Int32} (hk : 12 ≤ k ∧ k < 65) (ht : ab_et k = .byte) (hd : decode M.2.1 pc = .ok (.baload, 1)) (hn : (gd_e v).2.2.2.2 k i = n) (hin : vp_in x n) (kk : gd_G g M d bc bs (pc + 1) L (zI (v.1 k i x.toNatClampNeg) :: st) v Q) : gd_G g M d bc bs pc L (zI x :: zR k i :: st) v Q := ab_baload hk ht hd hn hin kk
theorem gd_zaload {k i n : Nat} {x : Int32} (hk : 12 ≤ k ∧ k < 65) (ht : ab_et k = .boolean) (hd : decode M.2.1 pc = .ok (.baload, 1)) (hn : (gd_e v).2.2.2.2 k i = n) (hin : vp_in x n) (kk : gd_G g M d bc bs (pc + 1) L (zI (v.1 k i x.toNatClampNeg) :: st) v Q) : gd_G g M d bc bs pc L (zI x :: zR k i :: st) v Q := ab_zaload hk ht hd hn hin kk
theorem gd_aaload {k i n kr y : Nat} {C : String} {x : Int32} (hk : 12 ≤ k ∧ k < 65) (ht : ab_et k = .object C) (hr : ab_rt k x.toNatClampNeg = kr) (hd : decode M.2.1 pc = .ok (.aaload, 1)) (hn : (gd_e v).2.2.2.2 k i = n) (hin : vp_in x n) (hy : (gd_e v).2.2.1 k i x.toNatClampNeg = some y) (kk : gd_G g M d bc bs (pc + 1) L (zR kr y :: st) v Q) : gd_G g M d bc bs pc L (zI x :: zR k i :: st) v Q := ab_aaload hk ht hr hd hn hin hy kk
theorem gd_alen {k i n : Nat} {x9 : Int32} (hk : 12 ≤ k ∧ k < 65) (hd : decode M.2.1 pc = .ok (.arraylength, 1)) (hn : (gd_e v).2.2.2.2 k i = n) (hv : Int32.ofNat n = x9) (kk : gd_G g M d bc bs (pc + 1) L (zI x9 :: st) v Q) : gd_G g M d bc bs pc L (zR k i :: st) v Q := ab_alen hk hd hn hv kk
theorem gd_iastore {k i n : Nat} {x y : Int32} (hk : 12 ≤ k ∧ k < 65) (ht : ab_et k = .int) (hro : ab_ro k = false) (hd : decode M.2.1 pc = .ok (.iastore, 1)) (hn : (gd_e v).2.2.2.2 k i = n) (hin : vp_in x n) (kk : gd_G g M d bc bs (pc + 1) L st (gd_sI v k i x.toNatClampNeg y) Q) : gd_G g M d bc bs pc L (zI y :: zI x :: zR k i :: st) v Q := ab_iastore hk ht hro hd hn hin kk
theorem gd_lastore {k i n : Nat} {x : Int32} {y : Int64} (hk : 12 ≤ k ∧ k < 65) (ht : ab_et k = .long) (hro : ab_ro k = false) (hd : decode M.2.1 pc = .ok (.lastore, 1)) (hn : (gd_e v).2.2.2.2 k i = n) (hin : vp_in x n) (kk : gd_G g M d bc bs (pc + 1) L st (gd_sJ v k i x.toNatClampNeg y) Q) : gd_G g M d bc bs pc L (zJ y :: zI x :: zR k i :: st) v Q := ab_lastore hk ht hro hd hn hin kk
theorem gd_bastore {k i n : Nat} {x y : Int32} (hk : 12 ≤ k ∧ k < 65) (ht : ab_et k = .byte) (hro : ab_ro k = false) (hd : decode M.2.1 pc = .ok (.bastore, 1)) (hn : (gd_e v).2.2.2.2 k i = n) (hin : vp_in x n) (kk : gd_G g M d bc bs (pc + 1) L st (gd_sI v k i x.toNatClampNeg y.toInt8.toInt32) Q) : gd_G g M d bc bs pc L (zI y :: zI x :: zR k i :: st) v Q := ab_bastore hk ht hro hd hn hin kk
theorem gd_zastore {k i n : Nat} {x y : Int32} (hk : 12 ≤ k ∧ k < 65) (ht : ab_et k = .boolean) (hro : ab_ro k = false) (hd : decode M.2.1 pc = .ok (.bastore, 1)) (hn : (gd_e v).2.2.2.2 k i = n) (hin : vp_in x n) (kk : gd_G g M d bc bs (pc + 1) L st (gd_sI v k i x.toNatClampNeg (vp_nar .boolean y)) Q) : gd_G g M d bc bs pc L (zI y :: zI x :: zR k i :: st) v Q := ab_zastore hk ht hro hd hn hin kk
theorem gd_iret {x : Int32} {ty : FieldType} (hd : decode M.2.1 pc = .ok (.ireturn, 1)) (hr : M.2.2.2 = some ty) (hn : narrow ty (.int x) = .int x) (hQ : Q (Sum.inl (some (zI x))) v) : gd_G g M d bc bs pc L [zI x] v Q := ab_iret hd hr hn ⟨v, rfl, hQ⟩
theorem gd_lret {x : Int64} (hd : decode M.2.1 pc = .ok (.lreturn, 1)) (hr : M.2.2.2 = some .long) (hQ : Q (Sum.inl (some (zJ x))) v) : gd_G g M d bc bs pc L [zJ x] v Q := ab_lret hd hr ⟨v, rfl, hQ⟩
theorem gd_vret (hd : decode M.2.1 pc = .ok (.return_, 1)) (hr : M.2.2.2 = none) (hQ : Q (Sum.inl none) v) : gd_G g M d bc bs pc L [] v Q := ab_vret hd hr ⟨v, rfl, hQ⟩
theorem gd_aret {k i : Nat} {ty : FieldType} (hd : decode M.2.1 pc = .ok (.areturn, 1)) (hr : M.2.2.2 = some ty) (ht : (∃ n, ty = .object n) ∨ ∃ t, ty = .array t) (hQ : Q (Sum.inl (some (zR k i))) v) : gd_G g M d bc bs pc L [zR k i] v Q := ab_aret hd hr ht ⟨v, rfl, hQ⟩
theorem gd_putC {h x idx : Nat} (hf : ab_fl M.1.cls idx 2 10 false) (hd : decode M.2.1 pc = .ok (.putfield idx, 3)) (k : gd_G g M d bc bs (pc + 3) L st (gd_sC v h x) Q) : gd_G g M d bc bs pc L (zR 15 x :: zR 2 h :: st) v Q := by
  refine ab_putR (kr := 15) hf rfl rfl rfl hd ?_
  have e : ab_sR (gd_e v) 2 h 10 (some x) = gd_e (gd_sC v h x) := by
    show (v.1, v.2.1, _, _) = (v.1, v.2.1, _, _)
    congr 2
    congr 1
    funext a b c
    by_cases h1 : a = 2 ∧ b = h ∧ c = 10
    · obtain ⟨rfl, rfl, rfl⟩ := h1
      simp [gd_R0, gd_sC, gd_e]
    · rw [if_neg h1]
      by_cases h2 : a = 2
      · subst h2
        by_cases h3 : c = 10
        · subst h3
          have h4 : ¬ b = h := fun q => h1 ⟨rfl, q, rfl⟩
          simp [gd_R0, gd_sC, gd_e, h4]
        · show gd_R0 v.2.2.1 2 b c = gd_R0 (gd_sC v h x).2.2.1 2 b c
          exact match c, h3 with
            | 0, _ => rfl
            | 1, _ => rfl
            | 2, _ => rfl
            | 3, _ => rfl
            | 4, _ => rfl
            | 5, _ => rfl
            | 6, _ => rfl
            | 7, _ => rfl
            | 8, _ => rfl
            | 9, _ => rfl
            | 10, h => absurd rfl h
            | _ + 11, _ => rfl
      · show gd_R0 v.2.2.1 a b c = gd_R0 (gd_sC v h x).2.2.1 a b c
        unfold gd_R0
        split <;> first | rfl | omega
  rw [e]
  exact k
theorem gd_enter {args : List ab_V} {mc ms : Nat} {L0 : List (Nat × ab_V)} (hy : plainName M.1.cls = true) (hsz : ab_sz args ≤ M.2.2.1) (hL : ab_args 0 args = L0) (k : gd_G g M d mc ms 0 L0 [] v Q) : gd_C g M d mc ms args v Q := ab_enter hy hsz hL k
theorem gd_room {ml dy d : Nat} (h : dy + 1 ≤ d) (hm : ml ≤ 41) : dy + 1 ≤ d ∧ 8 + (ml + 11) + 60 * dy ≤ 60 * d := ⟨h, by omega⟩
theorem gd_callV {N : ab_M} {idx n dy my sy k i : Nat} {C : String} {As rest : List ab_V} {Qy : ab_O → gd_D → Prop} (hl : ab_ml M.1.cls idx N n) (hin : Cond.instanceMethod N.1 ∈ lw_tbl) (hse : Cond.selects C N.1 N.1 ∈ lw_tbl) (hcl : (ab_cl[k]?).map (fun q => q.1) = some C) (hd : decode M.2.1 pc = .ok (.invokevirtual idx, 3)) (hst : As.reverse ++ zR k i :: rest = st) (hn : As.length = n)
    (hR : dy + 1 ≤ d ∧ 8 + (N.2.2.1 + 11) + 60 * dy ≤ 60 * d) (hb : my ≤ bc ∧ sy ≤ bs) (hz : ab_sz rest ≤ 8) (hC : gd_C g N dy my sy (zR k i :: As) v Qy)
    (kk : ∀ (x : Option ab_V) (v' : gd_D), Qy (Sum.inl x) v' → gd_G g M d (bc - my) (bs - sy) (pc + 3) L (x.toList ++ rest) v' Q) (kx : ∀ (E : String) (v' : gd_D), Qy (Sum.inr E) v' → Q (Sum.inr E) v') : gd_G g M d bc bs pc L st v Q :=
  ab_callV hl hin hse hcl hd hst hn hR hb hz hC (fun x w' h => by obtain ⟨v', rfl, h⟩ := h; exact kk x v' h) (fun E w' h => by obtain ⟨v', rfl, h⟩ := h; exact ⟨v', rfl, kx E v' h⟩)
theorem gd_callS {N : ab_M} {idx n dy my sy : Nat} {As rest : List ab_V} {Qy : ab_O → gd_D → Prop} (hl : ab_ml M.1.cls idx N n) (hin : Cond.static N.1 ∈ lw_tbl) (hd : decode M.2.1 pc = .ok (.invokestatic idx, 3)) (hst : As.reverse ++ rest = st) (hn : As.length = n)
    (hR : dy + 1 ≤ d ∧ 8 + (N.2.2.1 + 11) + 60 * dy ≤ 60 * d) (hb : my ≤ bc ∧ sy ≤ bs) (hz : ab_sz rest ≤ 8) (hC : gd_C g N dy my sy As v Qy)
    (kk : ∀ (x : Option ab_V) (v' : gd_D), Qy (Sum.inl x) v' → gd_G g M d (bc - my) (bs - sy) (pc + 3) L (x.toList ++ rest) v' Q) (kx : ∀ (E : String) (v' : gd_D), Qy (Sum.inr E) v' → Q (Sum.inr E) v') : gd_G g M d bc bs pc L st v Q :=
  ab_callS hl hin hd hst hn hR hb hz hC (fun x w' h => by obtain ⟨v', rfl, h⟩ := h; exact kk x v' h) (fun E w' h => by obtain ⟨v', rfl, h⟩ := h; exact ⟨v', rfl, kx E v' h⟩)
theorem gd_C.mono {N : ab_M} {dy my sy : Nat} {As : List ab_V} {Q1 Q2 : ab_O → gd_D → Prop} (h : gd_C g N dy my sy As v Q1) (hq : ∀ o v', Q1 o v' → Q2 o v') : gd_C g N dy my sy As v Q2 := ab_C.mono h (fun o w' q => by obtain ⟨v', rfl, q⟩ := q; exact ⟨v', rfl, hq o v' q⟩)
end GD1
/-- a call's answers, by their kinds -/
def gd_rI (K : Int32 → gd_D → Prop) (X : String → gd_D → Prop) : ab_O → gd_D → Prop := fun o v => match o with
  | Sum.inl (some (Sum.inl r)) => K r v
  | Sum.inr E => X E v
  | _ => False
def gd_rJ (K : Int64 → gd_D → Prop) (X : String → gd_D → Prop) : ab_O → gd_D → Prop := fun o v => match o with
  | Sum.inl (some (Sum.inr (Sum.inl r))) => K r v
  | Sum.inr E => X E v
  | _ => False
def gd_rV (K : gd_D → Prop) (X : String → gd_D → Prop) : ab_O → gd_D → Prop := fun o v => match o with
  | Sum.inl none => K v
  | Sum.inr E => X E v
  | _ => False
def gd_rR (k : Nat) (K : Nat → gd_D → Prop) (X : String → gd_D → Prop) : ab_O → gd_D → Prop := fun o v => match o with
  | Sum.inl (some (Sum.inr (Sum.inr (Sum.inr (some q))))) => q.1 = k ∧ K q.2 v
  | Sum.inr E => X E v
  | _ => False
theorem gd_rI_k {K : Int32 → gd_D → Prop} {X : String → gd_D → Prop} {P : Option ab_V → gd_D → Prop} (h : ∀ r v, K r v → P (some (zI r)) v) : ∀ x v, gd_rI K X (Sum.inl x) v → P x v := by
  intro x v q
  rcases x with _ | (r | r)
  · exact False.elim q
  · exact h r v q
  · exact False.elim q
theorem gd_rJ_k {K : Int64 → gd_D → Prop} {X : String → gd_D → Prop} {P : Option ab_V → gd_D → Prop} (h : ∀ r v, K r v → P (some (zJ r)) v) : ∀ x v, gd_rJ K X (Sum.inl x) v → P x v := by
  intro x v q
  rcases x with _ | (r | r | r)
  · exact False.elim q
  · exact False.elim q
  · exact h r v q
  · exact False.elim q
theorem gd_rV_k {K : gd_D → Prop} {X : String → gd_D → Prop} {P : Option ab_V → gd_D → Prop} (h : ∀ v, K v → P none v) : ∀ x v, gd_rV K X (Sum.inl x) v → P x v := by
  intro x v q
  rcases x with _ | r
  · exact h v q
  · exact False.elim q
theorem gd_rR_k {k : Nat} {K : Nat → gd_D → Prop} {X : String → gd_D → Prop} {P : Option ab_V → gd_D → Prop} (h : ∀ i v, K i v → P (some (zR k i)) v) : ∀ x v, gd_rR k K X (Sum.inl x) v → P x v := by
  intro x v q
  rcases x with _ | (r | r | r | _ | r)
  · exact False.elim q
  · exact False.elim q
  · exact False.elim q
  · exact False.elim q
  · exact False.elim q
  · obtain ⟨e, q⟩ := q
    obtain ⟨a, b⟩ := r
    dsimp only at e q
    subst e
    exact h b v q
