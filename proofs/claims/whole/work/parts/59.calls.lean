/-! THE CALLS: status -/
section CST
variable {g : ab_E} {d : Nat} {v : gd_D} {Q : ab_O → gd_D → Prop} {S : gs_T}
theorem k_status {x : Int32} (hG : gc_R v S) (h1 : ∀ k, k < 3 → x = nI k → Q (Sum.inl (some (zI (S.2.2.2.2 k)))) v) (h0 : ¬ (nI 0 ≤ x ∧ x ≤ nI 2) → Q (Sum.inl (some (zI (-1)))) v) : gd_C g mX10_status d 0 0 [zR 10 0, zI x] v Q := by
  refine c_X10_status (Nat.zero_le _) ⟨fun hc => h0 (fun q => ?_), fun hc => ⟨fun hc2 => ?_, fun hc2 => h0 (fun q => hc2 q.2)⟩⟩
  · have := q.1
    rw [show (nI 0 : Int32) = 0 from rfl, Int32.le_iff_toInt_le] at this
    rw [Int32.lt_iff_toInt_lt] at hc
    omega
  · have hge : nI 0 ≤ x := by
      rw [show (nI 0 : Int32) = 0 from rfl, Int32.le_iff_toInt_le]
      rw [Int32.lt_iff_toInt_lt] at hc
      omega
    obtain ⟨k, k1, k2, e⟩ := nu_rng (a := 0) (b := 2) (by omega) (by omega) hge hc2
    subst e
    rw [nI_clamp (by omega), hG.2.2.2.2.2 k (by omega)]
    exact ⟨nu_in (by omega) (by omega), h1 k (by omega) rfl⟩
theorem rr_status {x : Int32} (hd : 3 ≤ d) (hG : gr_R v S) (h1 : ∀ k v', k < 3 → x = nI k → fre v v' → v'.1 11 0 0 = 0 → gr_R v' S → Q (Sum.inl (some (zI (S.2.2.2.2 k)))) v') (h0 : ¬ (nI 0 ≤ x ∧ x ≤ nI 2) → ∀ v', fre v v' → v'.1 11 0 0 = 0 → gr_R v' S → Q (Sum.inl (some (zI (-1)))) v') : gd_C g mX11_status d 0 0 [zR 11 0, zI x] v Q := by
  obtain ⟨b1, b2', b3⟩ := gr_begin hG
  refine c_X11_status hd ?_
  rintro _ rfl
  refine r_lies ?_
  rw [gd_rI_at]
  by_cases hp : (0 : Int64) ≤ x.toInt64 ∧ x.toInt64 ≤ 2
  · rw [decide_eq_true hp]
    have hp' := (nu_lies (x := x) (a := 0) (b := 2) (by omega) (by omega)).mp hp
    obtain ⟨k, k1, k2, e⟩ := nu_rng (a := 0) (b := 2) (by omega) (by omega) hp'.1 hp'.2
    subst e
    refine ⟨fun z => absurd z (by decide), fun _ => ?_⟩
    rw [nI_clamp (by omega), b1.2.2.2.2.2.1 k (by omega)]
    exact ⟨nu_in (by omega) (by omega), h1 k _ (by omega) rfl b2' b3 b1⟩
  · rw [decide_eq_false hp]
    exact ⟨fun _ => h0 (fun q => hp ((nu_lies (x := x) (a := 0) (b := 2) (by omega) (by omega)).mpr q)) _ b2' b3 b1, fun z => absurd rfl z⟩
end CST
