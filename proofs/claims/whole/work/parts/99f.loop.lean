/-! THE LAW'S LOOP -/
section LP
variable {g : ab_E} {d : Nat} {Q : ab_O → gd_D → Prop}
theorem lw_loop (hN : ab_N g) (hd : 46 ≤ d) (hQ : ∀ v', Q (Sum.inl (some (zI 1))) v') : ∀ (r j bc bs : Nat) (v : gd_D) (S : gs_T), lw_I v S → v.2.2.2.2.2 ≤ 3072 → v.2.2.2.2.2 ≤ j + 6 * r + 5 → j ≤ 4000 → 8 * r ≤ bc → 600 * r ≤ bs → gd_G g mL_law d bc bs 23 (lw_LL j) [] v Q := by
  intro r
  induction r with
  | zero =>
    intro j bc bs v S hI hl hr hj hb hb2
    refine gd_iload 4 dL_law_23 rfl (gd_aload_n 0 dL_law_25 rfl rfl (gd_alen (k := 63) (i := 0) (n := v.2.2.2.2.2) (x9 := nI v.2.2.2.2.2) ⟨by decide, by decide⟩ dL_law_26 rfl rfl (gd_bipush (x9 := nI 6) dL_law_27 rfl (gd_isub dL_law_29 (gd_icmp_gt dL_law_30 (tgt := 1464) (by decide) (fun _ => ?_) (fun q => absurd ?_ q))))))
    · exact gd_iconst (x9 := 1) dL_law_1464 rfl (gd_iret dL_law_1465 rfl rfl (hQ v))
    · rw [Int32.lt_iff_toInt_lt, pk_sub_toInt (by omega) (by omega), nI_toInt (by omega)]; omega
  | succ r ih =>
    intro j bc bs v S hI hl hr hj hb hb2
    refine gd_iload 4 dL_law_23 rfl (gd_aload_n 0 dL_law_25 rfl rfl (gd_alen (k := 63) (i := 0) (n := v.2.2.2.2.2) (x9 := nI v.2.2.2.2.2) ⟨by decide, by decide⟩ dL_law_26 rfl rfl (gd_bipush (x9 := nI 6) dL_law_27 rfl (gd_isub dL_law_29 (gd_icmp_gt dL_law_30 (tgt := 1464) (by decide) (fun _ => ?_) (fun q => ?_))))))
    · exact gd_iconst (x9 := 1) dL_law_1464 rfl (gd_iret dL_law_1465 rfl rfl (hQ v))
    rw [Int32.lt_iff_toInt_lt, pk_sub_toInt (by omega) (by omega), nI_toInt (by omega)] at q
    have hj5 : j + 5 < v.2.2.2.2.2 := by omega
    have NX : ∀ my sy, my ≤ 8 → sy ≤ 600 → lw_nx g d (bc - my) (bs - sy) j v Q := fun my sy h1 h2 v' S' I e1 e2 =>
      gd_iinc 4 (x9 := nI (j + 6)) dL_law_1458 rfl (nI_add j 6) (by decide) rfl (gd_goto dL_law_1461 (tgt := 23) (by decide) (gd_locals [1, 2, 3, 4, 0] rfl (ih (j + 6) (bc - my) (bs - sy) v' S' I (by omega) (by omega) (by omega) (by omega) (by omega))))
    refine gd_aload_n 0 dL_law_33 rfl rfl (gd_iload 4 dL_law_34 rfl (gd_iaload (k := 63) (i := 0) (n := v.2.2.2.2.2) ⟨by decide, by decide⟩ rfl dL_law_36 rfl (nu_in (by omega) (by omega)) (gd_bipush (x9 := 31) dL_law_37 rfl (gd_iand dL_law_39 ?_))))
    obtain ⟨m, hm, em⟩ := pk_andE (v.1 63 0 (nI j).toNatClampNeg) (m := 31) 5 (by decide)
    rw [em]
    by_cases c : m < 25
    · obtain rfl | rfl | rfl | rfl | rfl | rfl | rfl | rfl | rfl | rfl | rfl | rfl | rfl | rfl | rfl | rfl | rfl | rfl | rfl | rfl | rfl | rfl | rfl | rfl | rfl : m = 0 ∨ m = 1 ∨ m = 2 ∨ m = 3 ∨ m = 4 ∨ m = 5 ∨ m = 6 ∨ m = 7 ∨ m = 8 ∨ m = 9 ∨ m = 10 ∨ m = 11 ∨ m = 12 ∨ m = 13 ∨ m = 14 ∨ m = 15 ∨ m = 16 ∨ m = 17 ∨ m = 18 ∨ m = 19 ∨ m = 20 ∨ m = 21 ∨ m = 22 ∨ m = 23 ∨ m = 24 := by omega
      · exact gd_tableIn dL_law_40 (by decide) (by decide) (by decide) (tgt := 156) (off := 116) (by decide) (sL_feed hI hd hj5 hl (NX 0 0 (by omega) (by omega)))
      · exact gd_tableIn dL_law_40 (by decide) (by decide) (by decide) (tgt := 229) (off := 189) (by decide) (sL_text hN hI hd hj5 hl ⟨by omega, by omega⟩ (NX 2 506 (by omega) (by omega)))
      · exact gd_tableIn dL_law_40 (by decide) (by decide) (by decide) (tgt := 285) (off := 245) (by decide) (sL_fault hI hd hj5 hl (NX 0 0 (by omega) (by omega)))
      · exact gd_tableIn dL_law_40 (by decide) (by decide) (by decide) (tgt := 298) (off := 258) (by decide) (sL_sale hN hI hd hj5 hl ⟨by omega, by omega⟩ (NX 7 42 (by omega) (by omega)))
      · exact gd_tableIn dL_law_40 (by decide) (by decide) (by decide) (tgt := 402) (off := 362) (by decide) (sL_stock hN hI hd hj5 hl ⟨by omega, by omega⟩ (NX 2 12 (by omega) (by omega)))
      · exact gd_tableIn dL_law_40 (by decide) (by decide) (by decide) (tgt := 470) (off := 430) (by decide) (sL_mark hN hI hd hj5 hl ⟨by omega, by omega⟩ (NX 1 6 (by omega) (by omega)))
      · exact gd_tableIn dL_law_40 (by decide) (by decide) (by decide) (tgt := 526) (off := 486) (by decide) (sL_night hN hI hd hj5 hl ⟨by omega, by omega⟩ (NX 1 6 (by omega) (by omega)))
      · exact gd_tableIn dL_law_40 (by decide) (by decide) (by decide) (tgt := 570) (off := 530) (by decide) (sL_buyin hN hI hd hj5 hl ⟨by omega, by omega⟩ (NX 3 18 (by omega) (by omega)))
      · exact gd_tableIn dL_law_40 (by decide) (by decide) (by decide) (tgt := 638) (off := 598) (by decide) (sL_undo hI hd hj5 hl (NX 0 0 (by omega) (by omega)))
      · exact gd_tableIn dL_law_40 (by decide) (by decide) (by decide) (tgt := 651) (off := 611) (by decide) (sL_told hN hI hd hj5 hl ⟨by omega, by omega⟩ (NX 1 6 (by omega) (by omega)))
      · exact gd_tableIn dL_law_40 (by decide) (by decide) (by decide) (tgt := 707) (off := 667) (by decide) (sL_dealer hN hI hd hj5 hl ⟨by omega, by omega⟩ (NX 2 12 (by omega) (by omega)))
      · exact gd_tableIn dL_law_40 (by decide) (by decide) (by decide) (tgt := 774) (off := 734) (by decide) (sL_of hN hI hd hj5 hl ⟨by omega, by omega⟩ (NX 2 12 (by omega) (by omega)))
      · exact gd_tableIn dL_law_40 (by decide) (by decide) (by decide) (tgt := 842) (off := 802) (by decide) (sL_rule hN hI hd hj5 hl ⟨by omega, by omega⟩ (NX 1 6 (by omega) (by omega)))
      · exact gd_tableIn dL_law_40 (by decide) (by decide) (by decide) (tgt := 897) (off := 857) (by decide) (sL_part hN hI hd hj5 hl ⟨by omega, by omega⟩ (NX 3 18 (by omega) (by omega)))
      · exact gd_tableIn dL_law_40 (by decide) (by decide) (by decide) (tgt := 977) (off := 937) (by decide) (sL_parts hN hI hd hj5 hl ⟨by omega, by omega⟩ (NX 1 6 (by omega) (by omega)))
      · exact gd_tableIn dL_law_40 (by decide) (by decide) (by decide) (tgt := 1033) (off := 993) (by decide) (sL_chain hN hI hd hj5 hl ⟨by omega, by omega⟩ (NX 3 18 (by omega) (by omega)))
      · exact gd_tableIn dL_law_40 (by decide) (by decide) (by decide) (tgt := 1101) (off := 1061) (by decide) (sL_ring hN hI hd hj5 hl ⟨by omega, by omega⟩ (NX 1 6 (by omega) (by omega)))
      · exact gd_tableIn dL_law_40 (by decide) (by decide) (by decide) (tgt := 1157) (off := 1117) (by decide) (sL_most hN hI hd hj5 hl ⟨by omega, by omega⟩ (NX 1 6 (by omega) (by omega)))
      · exact gd_tableIn dL_law_40 (by decide) (by decide) (by decide) (tgt := 1212) (off := 1172) (by decide) (sL_foretold hN hI hd hj5 hl ⟨by omega, by omega⟩ (NX 1 6 (by omega) (by omega)))
      · exact gd_tableIn dL_law_40 (by decide) (by decide) (by decide) (tgt := 1268) (off := 1228) (by decide) (sL_without hN hI hd hj5 hl ⟨by omega, by omega⟩ (NX 1 6 (by omega) (by omega)))
      · exact gd_tableIn dL_law_40 (by decide) (by decide) (by decide) (tgt := 1323) (off := 1283) (by decide) (sL_between hN hI hd hj5 hl ⟨by omega, by omega⟩ (NX 2 12 (by omega) (by omega)))
      · exact gd_tableIn dL_law_40 (by decide) (by decide) (by decide) (tgt := 1391) (off := 1351) (by decide) (sL_mean hI hd hj5 hl (NX 0 0 (by omega) (by omega)))
      · exact gd_tableIn dL_law_40 (by decide) (by decide) (by decide) (tgt := 1405) (off := 1365) (by decide) (sL_outside hI hd hj5 hl (NX 0 0 (by omega) (by omega)))
      · exact gd_tableIn dL_law_40 (by decide) (by decide) (by decide) (tgt := 1419) (off := 1379) (by decide) (sL_print hI hd hj5 hl (NX 0 0 (by omega) (by omega)))
      · exact gd_tableIn dL_law_40 (by decide) (by decide) (by decide) (tgt := 1433) (off := 1393) (by decide) (sL_status hI hd hj5 hl (NX 0 0 (by omega) (by omega)))
    · refine gd_tableOut dL_law_40 (tgt := 1458) (Or.inr (by rw [nI_toInt (by omega)]; omega)) (by decide) ?_
      exact NX 0 0 (by omega) (by omega) v S hI rfl rfl
end LP
