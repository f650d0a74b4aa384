/-! THE HOUSE'S CONSTRUCTOR -/
section IH
variable {g : ab_E} {M : ab_M} {d bc bs pc h L : Nat} {xs : Nat → Int32} {Lc : List (Nat × ab_V)} {st : List ab_V} {w T : ab_W} {c : Nat → Nat} {fI : Nat → Int32} {fJ : Nat → Int64} {fR f : Nat → Option Nat} {Q : ab_O → ab_W → Prop}
theorem ab_norule {idx : Nat} (hm : Cond.fieldLink M.1.cls idx "FailDesk$House" "NO_RULE" "[I" ∈ lw_tbl) (hnc : 0 < w.2.2.2.1 15) (hd : decode M.2.1 pc = .ok (.getstatic idx, 3)) (kk : ab_G g M d bc bs (pc + 3) Lc (zR 15 0 :: st) w Q) : ab_G g M d bc bs pc Lc st w Q := by
  intro Z p e R s m args below meth c mc ms X φ0 w0 φ H locs cells slots ls F
  obtain ⟨f1, f2, f3, f4, f5, f6, f7⟩ := F
  have hW := X.2.2.2.2.2.2.1
  intro U hT XT
  have e1 : ab_vl φ (zR 15 0) = .ref (g.2.2.2.2.2 15 0) := by show Value.ref _ = _; rw [f2.2.2.2.2.2.2.2]
  have K := kk Z p e R s m args below meth c mc ms X φ0 w0 φ H locs cells slots ls ⟨f1, f2, f3, f4, f5, f6, ab_p0 (ab_okR hnc) f6 f7⟩
  rw [List.map_cons, e1] at K
  exact va_gets X.1 X.2.1 ((Z.2.2.2.2.2.2.2.1.moved hW.alike).kept (ab_low X)) (ab_start (g := g) hT XT f4) X.2.2.2.1 (ab_word Z hW hm rfl args) (fun _ h => h) hd K U hT XT
theorem n_X2e (hc : 0 < c 15) : ab_C g mX2_empty d 0 0 [zR 2 h] (kw T w 2 h c fI fJ fR) (ab_gives (kw T w 2 h c (kw_f (kw_f (kw_f (kw_f (kw_f (kw_f (kw_f fI 2 0) 3 0) 4 0) 5 100) 6 0) 7 1) 8 4) (kw_f fJ 9 0) (kw_f fR 10 (some 0)))) := by
  refine ab_enter (by decide) (Nat.le_of_ble_eq_true rfl) rfl ?_
  refine ab_aload_n 0 dX2_empty_0 rfl rfl (ab_iconst (v := 0) dX2_empty_1 (by decide) (kw_putI fX2_35 rfl rfl dX2_empty_2 ?_))
  refine ab_aload_n 0 dX2_empty_5 rfl rfl (ab_iconst (v := 0) dX2_empty_6 (by decide) (kw_putI fX2_39 rfl rfl dX2_empty_7 ?_))
  refine ab_aload_n 0 dX2_empty_10 rfl rfl (ab_iconst (v := 0) dX2_empty_11 (by decide) (kw_putI fX2_42 rfl rfl dX2_empty_12 ?_))
  refine ab_aload_n 0 dX2_empty_15 rfl rfl (ab_bipush (v := 100) dX2_empty_16 (by decide) (kw_putI fX2_45 rfl rfl dX2_empty_18 ?_))
  refine ab_aload_n 0 dX2_empty_21 rfl rfl (ab_iconst (v := 0) dX2_empty_22 (by decide) (kw_putI fX2_48 rfl rfl dX2_empty_23 ?_))
  refine ab_aload_n 0 dX2_empty_26 rfl rfl (ab_iconst (v := 1) dX2_empty_27 (by decide) (kw_putI fX2_51 rfl rfl dX2_empty_28 ?_))
  refine ab_aload_n 0 dX2_empty_31 rfl rfl (ab_iconst (v := 4) dX2_empty_32 (by decide) (kw_putI fX2_54 rfl rfl dX2_empty_33 ?_))
  refine ab_aload_n 0 dX2_empty_36 rfl rfl (ab_lconst (v := 0) dX2_empty_37 (by decide) (kw_putJ fX2_57 rfl rfl dX2_empty_38 ?_))
  refine ab_aload_n 0 dX2_empty_41 rfl rfl (ab_norule (List.mem_of_getElem? (i := 164) (by decide +kernel)) hc dX2_empty_42 (kw_putR fX2_27 rfl rfl rfl dX2_empty_45 ?_))
  exact ab_vret dX2_empty_48 rfl ⟨rfl, rfl⟩
/-- how many there are with n more of kind k -/
def kw_n (c : Nat → Nat) (k n : Nat) : Nat → Nat := fun a => if a = k then c k + n else c a
theorem kw_n0 {k : Nat} : kw_n c k 0 = c := by
  funext a
  unfold kw_n
  split
  · subst_vars; rfl
  · rfl
theorem kw_un {k n : Nat} : kw_u (kw_n c k n) k = kw_n c k (n + 1) := by
  funext a
  unfold kw_u kw_n
  split
  · rw [if_pos rfl]; omega
  · rfl
theorem kw_le_n {v : Nat → Nat} {k n : Nat} (q : ∀ a, v a ≤ c a) : ∀ a, v a ≤ kw_n c k n a := fun a => by
  unfold kw_n
  have := q a
  split
  · subst_vars; omega
  · exact this
/-- the first n places of an array -/
def kw_p (b n : Nat) : Nat → Option Nat := fun j => if j < n then some (b + j) else none
theorem kw_p_s {b n : Nat} : kw_f (kw_p b n) n (some (b + n)) = kw_p b (n + 1) := by
  funext j
  unfold kw_f kw_p
  by_cases e : j = n
  · subst e; rw [if_pos rfl, if_pos (by omega)]
  · rw [if_neg e]
    by_cases e2 : j < n
    · rw [if_pos e2, if_pos (by omega)]
    · rw [if_neg e2, if_neg (by omega)]
/-- a sequence of objects that are made one by one and laid into an array -/
theorem n_X2a (hd : 2 ≤ d) (hb : h < w.2.2.2.1 2) (h13 : w.2.2.2.1 13 ≤ h) (hc0 : c 0 = 8 * h) (hle : ∀ a, w.2.2.2.1 a ≤ c a) (hT0 : ∀ b f, kw_0 (kw_tR T 13 h f) 0 b 0) (hT13 : T.2.2.2.2 13 h = 8) (h0 : fR 0 = some h) {B S : Nat}
    (kk : ∀ bc bs, B ≤ bc → S ≤ bs → ab_G g mX2_init d bc bs 56 [(1, zI (nI 8)), (0, zR 2 h)] [] (kw (kw_tR T 13 h (kw_p (8 * h) 8)) w 2 h (kw_n c 0 8) fI fJ fR) Q) :
    ∀ (r n bc bs : Nat), n + r = 8 → B + r ≤ bc → S + 6 * r ≤ bs → ab_G g mX2_init d bc bs 31 [(1, zI (nI n)), (0, zR 2 h)] [] (kw (kw_tR T 13 h (kw_p (8 * h) n)) w 2 h (kw_n c 0 n) fI fJ fR) Q := by
  intro r
  induction r with
  | zero =>
    intro n bc bs hn h1 h2
    obtain rfl : n = 8 := by omega
    exact ab_iload_n 0 dX2_init_31 rfl rfl (ab_bipush (v := nI 8) dX2_init_32 (by decide) (ab_icmp_ge dX2_init_34 (tgt := 56) (by decide) (fun _ => kk bc bs (by omega) (by omega)) (fun q => absurd (nI_le (Nat.le_refl 8) (by decide)) q)))
  | succ r ih =>
    intro n bc bs hn h1 h2
    refine ab_iload_n 0 dX2_init_31 rfl rfl (ab_bipush (v := nI 8) dX2_init_32 (by decide) (ab_icmp_ge dX2_init_34 (tgt := 56) (by decide) (fun q => absurd q (nI_ge (by omega) (by decide))) (fun _ => ?_)))
    refine ab_aload_n 1 dX2_init_37 rfl rfl (kw_getR fX2_11 rfl rfl dX2_init_38 h0 (ab_iload_n 0 dX2_init_41 rfl rfl ?_))
    refine kw_plain (k2 := 0) (i2 := 8 * h + n) (dy := 1) kcX0 knX2_9 dX2_init_42 dX2_init_45 dX2_init_46 kmX2_30 rfl kiX0 ⟨by omega, by omega⟩ ⟨by omega, by omega⟩ (Nat.le_of_ble_eq_true rfl) hb (kw_le_n hle) ?_ (hT0 _ _) (fun w => n_X0 (Nat.le_refl 1)) ?_
    · show (if 0 = 0 then c 0 + n else _) = _
      rw [if_pos rfl, hc0]
    refine ab_aastore (k := 13) (i := h) (n := 8) (kr := 0) (C := "FailDesk$Dealer") ⟨by decide, by decide⟩ rfl (fun _ => rfl) rfl rfl dX2_init_49 ((if_pos h13).trans hT13) (vp_in_nI (by omega) (by decide)) ?_
    rw [nI_clamp (by omega), kw_stR h13 (by omega), kw_p_s, kw_un]
    refine ab_iinc 0 (v := nI (n + 1)) dX2_init_50 rfl (nI_1 n) (by decide) rfl (ab_goto dX2_init_53 (tgt := 31) (by decide) ?_)
    exact ih (n + 1) _ _ (by omega) (by omega) (by omega)
theorem n_X2b (hd : 2 ≤ d) (hb : h < w.2.2.2.1 2) (h14 : w.2.2.2.1 14 ≤ h) (hc0 : c 9 = 24 * h) (hle : ∀ a, w.2.2.2.1 a ≤ c a) (hT0 : ∀ b f, kw_0 (kw_tR T 14 h f) 9 b 0) (hT14 : T.2.2.2.2 14 h = 24) (h0 : fR 1 = some h) {B S : Nat}
    (kk : ∀ bc bs, B ≤ bc → S ≤ bs → ab_G g mX2_init d bc bs 83 [(1, zI (nI 24)), (0, zR 2 h)] [] (kw (kw_tR T 14 h (kw_p (24 * h) 24)) w 2 h (kw_n c 9 24) fI fJ fR) Q) :
    ∀ (r n bc bs : Nat), n + r = 24 → B + r ≤ bc → S + 9 * r ≤ bs → ab_G g mX2_init d bc bs 58 [(1, zI (nI n)), (0, zR 2 h)] [] (kw (kw_tR T 14 h (kw_p (24 * h) n)) w 2 h (kw_n c 9 n) fI fJ fR) Q := by
  intro r
  induction r with
  | zero =>
    intro n bc bs hn h1 h2
    obtain rfl : n = 24 := by omega
    exact ab_iload_n 0 dX2_init_58 rfl rfl (ab_bipush (v := nI 24) dX2_init_59 (by decide) (ab_icmp_ge dX2_init_61 (tgt := 83) (by decide) (fun _ => kk bc bs (by omega) (by omega)) (fun q => absurd (nI_le (Nat.le_refl 24) (by decide)) q)))
  | succ r ih =>
    intro n bc bs hn h1 h2
    refine ab_iload_n 0 dX2_init_58 rfl rfl (ab_bipush (v := nI 24) dX2_init_59 (by decide) (ab_icmp_ge dX2_init_61 (tgt := 83) (by decide) (fun q => absurd q (nI_ge (by omega) (by decide))) (fun _ => ?_)))
    refine ab_aload_n 1 dX2_init_64 rfl rfl (kw_getR fX2_19 rfl rfl dX2_init_65 h0 (ab_iload_n 0 dX2_init_68 rfl rfl ?_))
    refine kw_plain (k2 := 9) (i2 := 24 * h + n) (dy := 1) kcX9 knX2_17 dX2_init_69 dX2_init_72 dX2_init_73 kmX2_31 rfl kiX9 ⟨by omega, by omega⟩ ⟨by omega, by omega⟩ (Nat.le_of_ble_eq_true rfl) hb (kw_le_n hle) ?_ (hT0 _ _) (fun w => n_X9 (Nat.le_refl 1)) ?_
    · show (if 9 = 9 then c 9 + n else _) = _
      rw [if_pos rfl, hc0]
    refine ab_aastore (k := 14) (i := h) (n := 24) (kr := 9) (C := "FailDesk$Sale") ⟨by decide, by decide⟩ rfl (fun _ => rfl) rfl rfl dX2_init_76 ((if_pos h14).trans hT14) (vp_in_nI (by omega) (by decide)) ?_
    rw [nI_clamp (by omega), kw_stR h14 (by omega), kw_p_s, kw_un]
    refine ab_iinc 0 (v := nI (n + 1)) dX2_init_77 rfl (nI_1 n) (by decide) rfl (ab_goto dX2_init_80 (tgt := 58) (by decide) ?_)
    exact ih (n + 1) _ _ (by omega) (by omega) (by omega)
end IH
