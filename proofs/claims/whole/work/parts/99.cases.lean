/-! THE LAW'S CASES: class's answer and reference's answer, side by side; budgets as variables -/
abbrev mL_law : ab_M := (yL_law, cL_law, 8, some .boolean)
section LC
variable {g : ab_E} {M : ab_M} {d bc bs pc : Nat} {L : List (Nat × ab_V)} {st : List ab_V} {v : gd_D} {Q : ab_O → gd_D → Prop}
theorem gd_callSHI {hh : List (Nat × Nat × Nat × Nat)} {N : ab_M} {idx n dy my sy : Nat} {As rest : List ab_V} {K : Int32 → gd_D → Prop} (hl : ab_mlH hh M.1.cls idx N n) (hin : Cond.static N.1 ∈ lw_tbl) (hd : decode M.2.1 pc = .ok (.invokestatic idx, 3)) (hst : As.reverse ++ rest = st) (hn : As.length = n) (hR : dy + 1 ≤ d ∧ 8 + (N.2.2.1 + 11) + 60 * dy ≤ 60 * d) (hb : my ≤ bc ∧ sy ≤ bs) (hz : ab_sz rest ≤ 8) (hC : gd_CH hh g N dy my sy As v (gd_rI K (fun E v9 => Q (Sum.inr E) v9))) (kk : ∀ (r : Int32) (v9 : gd_D), K r v9 → gd_G g M d (bc - my) (bs - sy) (pc + 3) L (zI r :: rest) v9 Q) : gd_G g M d bc bs pc L st v Q := by
  refine ab_callSH hl hin hd hst hn hR hb hz hC ?_ ?_
  · rintro x w' ⟨v', rfl, hq⟩
    exact gd_rI_k (P := fun x v9 => gd_G g M d (bc - my) (bs - sy) (pc + 3) L (x.toList ++ rest) v9 Q) (fun r v h => kk r v h) x v' hq
  · rintro E w' ⟨v', rfl, hq⟩
    exact ⟨v', rfl, hq⟩
end LC
theorem eL_feed {g : ab_E} {d bc bs j dy dz my sy : Nat} {v : gd_D} {Q : ab_O → gd_D → Prop} (hd : dy + 1 ≤ d) (hz : dz + 1 ≤ d) (ht : 2 + 1 ≤ d) (hj : j + 5 < v.2.2.2.2.2) (hl : v.2.2.2.2.2 ≤ 3072) (hb : my ≤ bc ∧ sy ≤ bs) (h : gd_C g mX10_feed dy my sy [zR 10 0, zI (v.1 63 0 (j + 1)), zI (v.1 63 0 (j + 2)), zI (v.1 63 0 (j + 3)), zI (v.1 63 0 (j + 4)), zI (v.1 63 0 (j + 5))] v (gd_rI (fun (k : Int32) v1 => v1.2.2.2.2.2 = v.2.2.2.2.2 ∧ gd_C g mX11_feed dz 0 0 [zR 11 0, zI (v1.1 63 0 (j + 1)), zI (v1.1 63 0 (j + 2)), zI (v1.1 63 0 (j + 3)), zI (v1.1 63 0 (j + 4)), zI (v1.1 63 0 (j + 5))] v1 (gd_rI (fun (y : Int32) v2 => k = y ∧ gd_G g mL_law d (bc - my) (bs - sy) 1458 [(0, zR 63 0), (1, zR 10 0), (2, zR 11 0), (3, zR 64 0), (4, zI (nI j))] [] v2 Q) (fun E v9 => Q (Sum.inr E) v9))) (fun E v9 => Q (Sum.inr E) v9))) : gd_G g mL_law d bc bs 156 [(0, zR 63 0), (1, zR 10 0), (2, zR 11 0), (3, zR 64 0), (4, zI (nI j))] [] v Q := by
  refine gd_aload_n 1 dL_law_156 rfl rfl ?_
  refine gd_aload_n 0 dL_law_157 rfl rfl ?_
  refine gd_iload 4 dL_law_158 rfl ?_
  refine gd_iconst (x9 := nI 1) dL_law_160 rfl ?_
  refine gd_iadd dL_law_161 ?_
  rw [nI_add]
  refine gd_iaload (k := 63) (i := 0) (n := v.2.2.2.2.2) ⟨by decide, by decide⟩ rfl dL_law_162 rfl (nu_in (by omega) (by omega)) ?_
  rw [nI_clamp (n := j + 1) (by omega)]
  refine gd_aload_n 0 dL_law_163 rfl rfl ?_
  refine gd_iload 4 dL_law_164 rfl ?_
  refine gd_iconst (x9 := nI 2) dL_law_166 rfl ?_
  refine gd_iadd dL_law_167 ?_
  rw [nI_add]
  refine gd_iaload (k := 63) (i := 0) (n := v.2.2.2.2.2) ⟨by decide, by decide⟩ rfl dL_law_168 rfl (nu_in (by omega) (by omega)) ?_
  rw [nI_clamp (n := j + 2) (by omega)]
  refine gd_aload_n 0 dL_law_169 rfl rfl ?_
  refine gd_iload 4 dL_law_170 rfl ?_
  refine gd_iconst (x9 := nI 3) dL_law_172 rfl ?_
  refine gd_iadd dL_law_173 ?_
  rw [nI_add]
  refine gd_iaload (k := 63) (i := 0) (n := v.2.2.2.2.2) ⟨by decide, by decide⟩ rfl dL_law_174 rfl (nu_in (by omega) (by omega)) ?_
  rw [nI_clamp (n := j + 3) (by omega)]
  refine gd_aload_n 0 dL_law_175 rfl rfl ?_
  refine gd_iload 4 dL_law_176 rfl ?_
  refine gd_iconst (x9 := nI 4) dL_law_178 rfl ?_
  refine gd_iadd dL_law_179 ?_
  rw [nI_add]
  refine gd_iaload (k := 63) (i := 0) (n := v.2.2.2.2.2) ⟨by decide, by decide⟩ rfl dL_law_180 rfl (nu_in (by omega) (by omega)) ?_
  rw [nI_clamp (n := j + 4) (by omega)]
  refine gd_aload_n 0 dL_law_181 rfl rfl ?_
  refine gd_iload 4 dL_law_182 rfl ?_
  refine gd_iconst (x9 := nI 5) dL_law_184 rfl ?_
  refine gd_iadd dL_law_185 ?_
  rw [nI_add]
  refine gd_iaload (k := 63) (i := 0) (n := v.2.2.2.2.2) ⟨by decide, by decide⟩ rfl dL_law_186 rfl (nu_in (by omega) (by omega)) ?_
  rw [nI_clamp (n := j + 5) (by omega)]
  refine gd_callVI (N := mX10_feed) (dy := dy) (my := my) (sy := sy) (k := 10) (i := 0) (As := [zI (v.1 63 0 (j + 1)), zI (v.1 63 0 (j + 2)), zI (v.1 63 0 (j + 3)), zI (v.1 63 0 (j + 4)), zI (v.1 63 0 (j + 5))]) (rest := []) lL_80 iX10_feed sX10_feed rfl dL_law_187 rfl rfl ⟨hd, by show 8 + (6 + 11) + 60 * dy ≤ 60 * d; omega⟩ hb (Nat.le_of_ble_eq_true rfl) h ?_
  rintro k v1 ⟨e1, h⟩
  have hj1 : j + 5 < v1.2.2.2.2.2 := by rw [e1]; exact hj
  have hl1 : v1.2.2.2.2.2 ≤ 3072 := by rw [e1]; exact hl
  refine gd_aload_n 2 dL_law_190 rfl rfl ?_
  refine gd_aload_n 0 dL_law_191 rfl rfl ?_
  refine gd_iload 4 dL_law_192 rfl ?_
  refine gd_iconst (x9 := nI 1) dL_law_194 rfl ?_
  refine gd_iadd dL_law_195 ?_
  rw [nI_add]
  refine gd_iaload (k := 63) (i := 0) (n := v1.2.2.2.2.2) ⟨by decide, by decide⟩ rfl dL_law_196 rfl (nu_in (by omega) (by omega)) ?_
  rw [nI_clamp (n := j + 1) (by omega)]
  refine gd_aload_n 0 dL_law_197 rfl rfl ?_
  refine gd_iload 4 dL_law_198 rfl ?_
  refine gd_iconst (x9 := nI 2) dL_law_200 rfl ?_
  refine gd_iadd dL_law_201 ?_
  rw [nI_add]
  refine gd_iaload (k := 63) (i := 0) (n := v1.2.2.2.2.2) ⟨by decide, by decide⟩ rfl dL_law_202 rfl (nu_in (by omega) (by omega)) ?_
  rw [nI_clamp (n := j + 2) (by omega)]
  refine gd_aload_n 0 dL_law_203 rfl rfl ?_
  refine gd_iload 4 dL_law_204 rfl ?_
  refine gd_iconst (x9 := nI 3) dL_law_206 rfl ?_
  refine gd_iadd dL_law_207 ?_
  rw [nI_add]
  refine gd_iaload (k := 63) (i := 0) (n := v1.2.2.2.2.2) ⟨by decide, by decide⟩ rfl dL_law_208 rfl (nu_in (by omega) (by omega)) ?_
  rw [nI_clamp (n := j + 3) (by omega)]
  refine gd_aload_n 0 dL_law_209 rfl rfl ?_
  refine gd_iload 4 dL_law_210 rfl ?_
  refine gd_iconst (x9 := nI 4) dL_law_212 rfl ?_
  refine gd_iadd dL_law_213 ?_
  rw [nI_add]
  refine gd_iaload (k := 63) (i := 0) (n := v1.2.2.2.2.2) ⟨by decide, by decide⟩ rfl dL_law_214 rfl (nu_in (by omega) (by omega)) ?_
  rw [nI_clamp (n := j + 4) (by omega)]
  refine gd_aload_n 0 dL_law_215 rfl rfl ?_
  refine gd_iload 4 dL_law_216 rfl ?_
  refine gd_iconst (x9 := nI 5) dL_law_218 rfl ?_
  refine gd_iadd dL_law_219 ?_
  rw [nI_add]
  refine gd_iaload (k := 63) (i := 0) (n := v1.2.2.2.2.2) ⟨by decide, by decide⟩ rfl dL_law_220 rfl (nu_in (by omega) (by omega)) ?_
  rw [nI_clamp (n := j + 5) (by omega)]
  refine gd_callVI (N := mX11_feed) (dy := dz) (my := 0) (sy := 0) (k := 11) (i := 0) (As := [zI (v1.1 63 0 (j + 1)), zI (v1.1 63 0 (j + 2)), zI (v1.1 63 0 (j + 3)), zI (v1.1 63 0 (j + 4)), zI (v1.1 63 0 (j + 5))]) (rest := [zI k]) lL_83 iX11_feed sX11_feed rfl dL_law_221 rfl rfl ⟨hz, by show 8 + (6 + 11) + 60 * dz ≤ 60 * d; omega⟩ ⟨Nat.zero_le _, Nat.zero_le _⟩ (Nat.le_of_ble_eq_true rfl) h ?_
  rintro y v2 ⟨e2, h⟩
  exact gd_icmp_eq dL_law_224 (tgt := 1458) (by decide) (fun _ => h) (fun q => absurd e2 q)
theorem eL_text {g : ab_E} {d bc bs j dy dz my sy : Nat} {v : gd_D} {Q : ab_O → gd_D → Prop} (hd : dy + 1 ≤ d) (hz : dz + 1 ≤ d) (ht : 2 + 1 ≤ d) (hj : j + 5 < v.2.2.2.2.2) (hl : v.2.2.2.2.2 ≤ 3072) (hb : my ≤ bc ∧ sy ≤ bs) (h : gd_CH hL_text g mL_text dy my sy [zR 10 0, zI (v.1 63 0 (j + 1)), zR 64 0] v (gd_rI (fun (k : Int32) v1 => v1.2.2.2.2.2 = v.2.2.2.2.2 ∧ gd_C g mX11_text dz 0 0 [zR 11 0, zI (v1.1 63 0 (j + 1))] v1 (gd_rI (fun (y : Int32) v2 => gd_C g mX11_thrown 2 0 0 [zR 11 0] v2 (gd_rI (fun (t : Int32) v3 => t = k ∧ (k = 0 → v3.2.1 64 0 0 = y.toInt64) ∧ gd_G g mL_law d (bc - my) (bs - sy) 1458 [(0, zR 63 0), (1, zR 10 0), (2, zR 11 0), (3, zR 64 0), (4, zI (nI j))] [] v3 Q) (fun E v9 => Q (Sum.inr E) v9))) (fun E v9 => Q (Sum.inr E) v9))) (fun E v9 => Q (Sum.inr E) v9))) : gd_G g mL_law d bc bs 229 [(0, zR 63 0), (1, zR 10 0), (2, zR 11 0), (3, zR 64 0), (4, zI (nI j))] [] v Q := by
  refine gd_aload_n 1 dL_law_229 rfl rfl ?_
  refine gd_aload_n 0 dL_law_230 rfl rfl ?_
  refine gd_iload 4 dL_law_231 rfl ?_
  refine gd_iconst (x9 := nI 1) dL_law_233 rfl ?_
  refine gd_iadd dL_law_234 ?_
  rw [nI_add]
  refine gd_iaload (k := 63) (i := 0) (n := v.2.2.2.2.2) ⟨by decide, by decide⟩ rfl dL_law_235 rfl (nu_in (by omega) (by omega)) ?_
  rw [nI_clamp (n := j + 1) (by omega)]
  refine gd_aload_n 3 dL_law_236 rfl rfl ?_
  refine gd_callSHI (N := mL_text) (dy := dy) (my := my) (sy := sy) (As := [zR 10 0, zI (v.1 63 0 (j + 1)), zR 64 0]) (rest := []) lL_84 tL_text dL_law_237 rfl rfl ⟨hd, by show 8 + (4 + 11) + 60 * dy ≤ 60 * d; omega⟩ hb (Nat.le_of_ble_eq_true rfl) h ?_
  rintro k v1 ⟨e1, h⟩
  have hj1 : j + 5 < v1.2.2.2.2.2 := by rw [e1]; exact hj
  have hl1 : v1.2.2.2.2.2 ≤ 3072 := by rw [e1]; exact hl
  refine gd_istore dL_law_240 (Nat.le_of_ble_eq_true rfl) rfl ?_
  refine gd_aload_n 3 dL_law_242 rfl rfl ?_
  refine gd_aload_n 1 dL_law_243 rfl rfl ?_
  refine gd_iload 5 dL_law_244 rfl ?_
  refine gd_iconst (x9 := nI 1) dL_law_246 rfl ?_
  refine gd_iadd dL_law_247 ?_
  rw [nI_add]
  refine gd_iaload (k := 63) (i := 0) (n := v1.2.2.2.2.2) ⟨by decide, by decide⟩ rfl dL_law_248 rfl (nu_in (by omega) (by omega)) ?_
  rw [nI_clamp (n := j + 1) (by omega)]
  refine gd_callVI (N := mX11_text) (dy := dz) (my := 0) (sy := 0) (k := 11) (i := 0) (As := [zI (v1.1 63 0 (j + 1))]) (rest := []) lL_89 iX11_text sX11_text rfl dL_law_249 rfl rfl ⟨hz, by show 8 + (3 + 11) + 60 * dz ≤ 60 * d; omega⟩ ⟨Nat.zero_le _, Nat.zero_le _⟩ (Nat.le_of_ble_eq_true rfl) h ?_
  rintro y v2 h
  refine gd_istore dL_law_252 (Nat.le_of_ble_eq_true rfl) rfl ?_
  refine gd_aload_n 4 dL_law_254 rfl rfl ?_
  refine gd_callVI (N := mX11_thrown) (dy := 2) (my := 0) (sy := 0) (k := 11) (i := 0) (As := []) (rest := []) lL_90 iX11_thrown sX11_thrown rfl dL_law_255 rfl rfl ⟨ht, by show 8 + (1 + 11) + 60 * 2 ≤ 60 * d; omega⟩ ⟨Nat.zero_le _, Nat.zero_le _⟩ (Nat.le_of_ble_eq_true rfl) h ?_
  rintro t v3 ⟨e3, e4, h⟩
  refine gd_iload 1 dL_law_258 rfl ?_
  refine gd_icmp_eq dL_law_260 (tgt := 265) (by decide) (fun _ => ?_) (fun q => absurd e3 q)
  refine gd_iload 1 dL_law_265 rfl ?_
  refine gd_if_ne dL_law_267 (tgt := 282) (by decide) (fun _ => gd_goto dL_law_282 (tgt := 1458) (by decide) (gd_locals [2, 3, 4, 5, 6] rfl h)) (fun q => ?_)
  refine gd_aload_n 5 dL_law_270 rfl rfl ?_
  refine gd_iconst (x9 := nI 0) dL_law_271 rfl ?_
  refine gd_laload (k := 64) (i := 0) (n := 1) ⟨by decide, by decide⟩ rfl dL_law_272 rfl (nu_in (by decide) (by decide)) ?_
  rw [nI_clamp (n := 0) (by decide)]
  refine gd_iload 0 dL_law_273 rfl ?_
  refine gd_i2l dL_law_275 ?_
  exact gd_lc_eq dL_law_276 dL_law_277 (tgt := 282) (by decide) (fun _ => gd_goto dL_law_282 (tgt := 1458) (by decide) (gd_locals [2, 3, 4, 5, 6] rfl h)) (fun q9 => absurd (e4 q) q9)
theorem eL_fault {g : ab_E} {d bc bs j dy dz my sy : Nat} {v : gd_D} {Q : ab_O → gd_D → Prop} (hd : dy + 1 ≤ d) (hz : dz + 1 ≤ d) (ht : 2 + 1 ≤ d) (hj : j + 5 < v.2.2.2.2.2) (hl : v.2.2.2.2.2 ≤ 3072) (hb : my ≤ bc ∧ sy ≤ bs) (h : gd_C g mX10_fault dy my sy [zR 10 0] v (gd_rI (fun (k : Int32) v1 => v1.2.2.2.2.2 = v.2.2.2.2.2 ∧ gd_C g mX11_fault dz 0 0 [zR 11 0] v1 (gd_rI (fun (y : Int32) v2 => k = y ∧ gd_G g mL_law d (bc - my) (bs - sy) 1458 [(0, zR 63 0), (1, zR 10 0), (2, zR 11 0), (3, zR 64 0), (4, zI (nI j))] [] v2 Q) (fun E v9 => Q (Sum.inr E) v9))) (fun E v9 => Q (Sum.inr E) v9))) : gd_G g mL_law d bc bs 285 [(0, zR 63 0), (1, zR 10 0), (2, zR 11 0), (3, zR 64 0), (4, zI (nI j))] [] v Q := by
  refine gd_aload_n 1 dL_law_285 rfl rfl ?_
  refine gd_callVI (N := mX10_fault) (dy := dy) (my := my) (sy := sy) (k := 10) (i := 0) (As := []) (rest := []) lL_93 iX10_fault sX10_fault rfl dL_law_286 rfl rfl ⟨hd, by show 8 + (1 + 11) + 60 * dy ≤ 60 * d; omega⟩ hb (Nat.le_of_ble_eq_true rfl) h ?_
  rintro k v1 ⟨e1, h⟩
  have hj1 : j + 5 < v1.2.2.2.2.2 := by rw [e1]; exact hj
  have hl1 : v1.2.2.2.2.2 ≤ 3072 := by rw [e1]; exact hl
  refine gd_aload_n 2 dL_law_289 rfl rfl ?_
  refine gd_callVI (N := mX11_fault) (dy := dz) (my := 0) (sy := 0) (k := 11) (i := 0) (As := []) (rest := [zI k]) lL_96 iX11_fault sX11_fault rfl dL_law_290 rfl rfl ⟨hz, by show 8 + (1 + 11) + 60 * dz ≤ 60 * d; omega⟩ ⟨Nat.zero_le _, Nat.zero_le _⟩ (Nat.le_of_ble_eq_true rfl) h ?_
  rintro y v2 ⟨e2, h⟩
  exact gd_icmp_eq dL_law_293 (tgt := 1458) (by decide) (fun _ => h) (fun q => absurd e2 q)
theorem eL_sale {g : ab_E} {d bc bs j dy dz my sy : Nat} {v : gd_D} {Q : ab_O → gd_D → Prop} (hd : dy + 1 ≤ d) (hz : dz + 1 ≤ d) (ht : 2 + 1 ≤ d) (hj : j + 5 < v.2.2.2.2.2) (hl : v.2.2.2.2.2 ≤ 3072) (hb : my ≤ bc ∧ sy ≤ bs) (h : gd_CH hL_sale g mL_sale dy my sy [zR 10 0, zI (v.1 63 0 (j + 1)), zI (v.1 63 0 (j + 2)), zI (v.1 63 0 (j + 3)), zI (v.1 63 0 (j + 4)), zI (v.1 63 0 (j + 5)), zR 64 0] v (gd_rI (fun (k : Int32) v1 => v1.2.2.2.2.2 = v.2.2.2.2.2 ∧ gd_C g mX11_sale dz 0 0 [zR 11 0, zI (v1.1 63 0 (j + 1)), zI (v1.1 63 0 (j + 2)), zI (v1.1 63 0 (j + 3)), zI (v1.1 63 0 (j + 4)), zI (v1.1 63 0 (j + 5))] v1 (gd_rI (fun (y : Int32) v2 => gd_C g mX11_thrown 2 0 0 [zR 11 0] v2 (gd_rI (fun (t : Int32) v3 => t = k ∧ (k = 0 → v3.2.1 64 0 0 = y.toInt64) ∧ gd_G g mL_law d (bc - my) (bs - sy) 1458 [(0, zR 63 0), (1, zR 10 0), (2, zR 11 0), (3, zR 64 0), (4, zI (nI j))] [] v3 Q) (fun E v9 => Q (Sum.inr E) v9))) (fun E v9 => Q (Sum.inr E) v9))) (fun E v9 => Q (Sum.inr E) v9))) : gd_G g mL_law d bc bs 298 [(0, zR 63 0), (1, zR 10 0), (2, zR 11 0), (3, zR 64 0), (4, zI (nI j))] [] v Q := by
  refine gd_aload_n 1 dL_law_298 rfl rfl ?_
  refine gd_aload_n 0 dL_law_299 rfl rfl ?_
  refine gd_iload 4 dL_law_300 rfl ?_
  refine gd_iconst (x9 := nI 1) dL_law_302 rfl ?_
  refine gd_iadd dL_law_303 ?_
  rw [nI_add]
  refine gd_iaload (k := 63) (i := 0) (n := v.2.2.2.2.2) ⟨by decide, by decide⟩ rfl dL_law_304 rfl (nu_in (by omega) (by omega)) ?_
  rw [nI_clamp (n := j + 1) (by omega)]
  refine gd_aload_n 0 dL_law_305 rfl rfl ?_
  refine gd_iload 4 dL_law_306 rfl ?_
  refine gd_iconst (x9 := nI 2) dL_law_308 rfl ?_
  refine gd_iadd dL_law_309 ?_
  rw [nI_add]
  refine gd_iaload (k := 63) (i := 0) (n := v.2.2.2.2.2) ⟨by decide, by decide⟩ rfl dL_law_310 rfl (nu_in (by omega) (by omega)) ?_
  rw [nI_clamp (n := j + 2) (by omega)]
  refine gd_aload_n 0 dL_law_311 rfl rfl ?_
  refine gd_iload 4 dL_law_312 rfl ?_
  refine gd_iconst (x9 := nI 3) dL_law_314 rfl ?_
  refine gd_iadd dL_law_315 ?_
  rw [nI_add]
  refine gd_iaload (k := 63) (i := 0) (n := v.2.2.2.2.2) ⟨by decide, by decide⟩ rfl dL_law_316 rfl (nu_in (by omega) (by omega)) ?_
  rw [nI_clamp (n := j + 3) (by omega)]
  refine gd_aload_n 0 dL_law_317 rfl rfl ?_
  refine gd_iload 4 dL_law_318 rfl ?_
  refine gd_iconst (x9 := nI 4) dL_law_320 rfl ?_
  refine gd_iadd dL_law_321 ?_
  rw [nI_add]
  refine gd_iaload (k := 63) (i := 0) (n := v.2.2.2.2.2) ⟨by decide, by decide⟩ rfl dL_law_322 rfl (nu_in (by omega) (by omega)) ?_
  rw [nI_clamp (n := j + 4) (by omega)]
  refine gd_aload_n 0 dL_law_323 rfl rfl ?_
  refine gd_iload 4 dL_law_324 rfl ?_
  refine gd_iconst (x9 := nI 5) dL_law_326 rfl ?_
  refine gd_iadd dL_law_327 ?_
  rw [nI_add]
  refine gd_iaload (k := 63) (i := 0) (n := v.2.2.2.2.2) ⟨by decide, by decide⟩ rfl dL_law_328 rfl (nu_in (by omega) (by omega)) ?_
  rw [nI_clamp (n := j + 5) (by omega)]
  refine gd_aload_n 3 dL_law_329 rfl rfl ?_
  refine gd_callSHI (N := mL_sale) (dy := dy) (my := my) (sy := sy) (As := [zR 10 0, zI (v.1 63 0 (j + 1)), zI (v.1 63 0 (j + 2)), zI (v.1 63 0 (j + 3)), zI (v.1 63 0 (j + 4)), zI (v.1 63 0 (j + 5)), zR 64 0]) (rest := []) lL_97 tL_sale dL_law_330 rfl rfl ⟨hd, by show 8 + (8 + 11) + 60 * dy ≤ 60 * d; omega⟩ hb (Nat.le_of_ble_eq_true rfl) h ?_
  rintro k v1 ⟨e1, h⟩
  have hj1 : j + 5 < v1.2.2.2.2.2 := by rw [e1]; exact hj
  have hl1 : v1.2.2.2.2.2 ≤ 3072 := by rw [e1]; exact hl
  refine gd_istore dL_law_333 (Nat.le_of_ble_eq_true rfl) rfl ?_
  refine gd_aload_n 3 dL_law_335 rfl rfl ?_
  refine gd_aload_n 1 dL_law_336 rfl rfl ?_
  refine gd_iload 5 dL_law_337 rfl ?_
  refine gd_iconst (x9 := nI 1) dL_law_339 rfl ?_
  refine gd_iadd dL_law_340 ?_
  rw [nI_add]
  refine gd_iaload (k := 63) (i := 0) (n := v1.2.2.2.2.2) ⟨by decide, by decide⟩ rfl dL_law_341 rfl (nu_in (by omega) (by omega)) ?_
  rw [nI_clamp (n := j + 1) (by omega)]
  refine gd_aload_n 1 dL_law_342 rfl rfl ?_
  refine gd_iload 5 dL_law_343 rfl ?_
  refine gd_iconst (x9 := nI 2) dL_law_345 rfl ?_
  refine gd_iadd dL_law_346 ?_
  rw [nI_add]
  refine gd_iaload (k := 63) (i := 0) (n := v1.2.2.2.2.2) ⟨by decide, by decide⟩ rfl dL_law_347 rfl (nu_in (by omega) (by omega)) ?_
  rw [nI_clamp (n := j + 2) (by omega)]
  refine gd_aload_n 1 dL_law_348 rfl rfl ?_
  refine gd_iload 5 dL_law_349 rfl ?_
  refine gd_iconst (x9 := nI 3) dL_law_351 rfl ?_
  refine gd_iadd dL_law_352 ?_
  rw [nI_add]
  refine gd_iaload (k := 63) (i := 0) (n := v1.2.2.2.2.2) ⟨by decide, by decide⟩ rfl dL_law_353 rfl (nu_in (by omega) (by omega)) ?_
  rw [nI_clamp (n := j + 3) (by omega)]
  refine gd_aload_n 1 dL_law_354 rfl rfl ?_
  refine gd_iload 5 dL_law_355 rfl ?_
  refine gd_iconst (x9 := nI 4) dL_law_357 rfl ?_
  refine gd_iadd dL_law_358 ?_
  rw [nI_add]
  refine gd_iaload (k := 63) (i := 0) (n := v1.2.2.2.2.2) ⟨by decide, by decide⟩ rfl dL_law_359 rfl (nu_in (by omega) (by omega)) ?_
  rw [nI_clamp (n := j + 4) (by omega)]
  refine gd_aload_n 1 dL_law_360 rfl rfl ?_
  refine gd_iload 5 dL_law_361 rfl ?_
  refine gd_iconst (x9 := nI 5) dL_law_363 rfl ?_
  refine gd_iadd dL_law_364 ?_
  rw [nI_add]
  refine gd_iaload (k := 63) (i := 0) (n := v1.2.2.2.2.2) ⟨by decide, by decide⟩ rfl dL_law_365 rfl (nu_in (by omega) (by omega)) ?_
  rw [nI_clamp (n := j + 5) (by omega)]
  refine gd_callVI (N := mX11_sale) (dy := dz) (my := 0) (sy := 0) (k := 11) (i := 0) (As := [zI (v1.1 63 0 (j + 1)), zI (v1.1 63 0 (j + 2)), zI (v1.1 63 0 (j + 3)), zI (v1.1 63 0 (j + 4)), zI (v1.1 63 0 (j + 5))]) (rest := []) lL_100 iX11_sale sX11_sale rfl dL_law_366 rfl rfl ⟨hz, by show 8 + (8 + 11) + 60 * dz ≤ 60 * d; omega⟩ ⟨Nat.zero_le _, Nat.zero_le _⟩ (Nat.le_of_ble_eq_true rfl) h ?_
  rintro y v2 h
  refine gd_istore dL_law_369 (Nat.le_of_ble_eq_true rfl) rfl ?_
  refine gd_aload_n 4 dL_law_371 rfl rfl ?_
  refine gd_callVI (N := mX11_thrown) (dy := 2) (my := 0) (sy := 0) (k := 11) (i := 0) (As := []) (rest := []) lL_90 iX11_thrown sX11_thrown rfl dL_law_372 rfl rfl ⟨ht, by show 8 + (1 + 11) + 60 * 2 ≤ 60 * d; omega⟩ ⟨Nat.zero_le _, Nat.zero_le _⟩ (Nat.le_of_ble_eq_true rfl) h ?_
  rintro t v3 ⟨e3, e4, h⟩
  refine gd_iload 1 dL_law_375 rfl ?_
  refine gd_icmp_eq dL_law_377 (tgt := 382) (by decide) (fun _ => ?_) (fun q => absurd e3 q)
  refine gd_iload 1 dL_law_382 rfl ?_
  refine gd_if_ne dL_law_384 (tgt := 399) (by decide) (fun _ => gd_goto dL_law_399 (tgt := 1458) (by decide) (gd_locals [2, 3, 4, 5, 6] rfl h)) (fun q => ?_)
  refine gd_aload_n 5 dL_law_387 rfl rfl ?_
  refine gd_iconst (x9 := nI 0) dL_law_388 rfl ?_
  refine gd_laload (k := 64) (i := 0) (n := 1) ⟨by decide, by decide⟩ rfl dL_law_389 rfl (nu_in (by decide) (by decide)) ?_
  rw [nI_clamp (n := 0) (by decide)]
  refine gd_iload 0 dL_law_390 rfl ?_
  refine gd_i2l dL_law_392 ?_
  exact gd_lc_eq dL_law_393 dL_law_394 (tgt := 399) (by decide) (fun _ => gd_goto dL_law_399 (tgt := 1458) (by decide) (gd_locals [2, 3, 4, 5, 6] rfl h)) (fun q9 => absurd (e4 q) q9)
theorem eL_stock {g : ab_E} {d bc bs j dy dz my sy : Nat} {v : gd_D} {Q : ab_O → gd_D → Prop} (hd : dy + 1 ≤ d) (hz : dz + 1 ≤ d) (ht : 2 + 1 ≤ d) (hj : j + 5 < v.2.2.2.2.2) (hl : v.2.2.2.2.2 ≤ 3072) (hb : my ≤ bc ∧ sy ≤ bs) (h : gd_CH hL_stock g mL_stock dy my sy [zR 10 0, zI (v.1 63 0 (j + 1)), zI (v.1 63 0 (j + 2)), zR 64 0] v (gd_rI (fun (k : Int32) v1 => v1.2.2.2.2.2 = v.2.2.2.2.2 ∧ gd_C g mX11_stock dz 0 0 [zR 11 0, zI (v1.1 63 0 (j + 1)), zI (v1.1 63 0 (j + 2))] v1 (gd_rI (fun (y : Int32) v2 => gd_C g mX11_thrown 2 0 0 [zR 11 0] v2 (gd_rI (fun (t : Int32) v3 => t = k ∧ (k = 0 → v3.2.1 64 0 0 = y.toInt64) ∧ gd_G g mL_law d (bc - my) (bs - sy) 1458 [(0, zR 63 0), (1, zR 10 0), (2, zR 11 0), (3, zR 64 0), (4, zI (nI j))] [] v3 Q) (fun E v9 => Q (Sum.inr E) v9))) (fun E v9 => Q (Sum.inr E) v9))) (fun E v9 => Q (Sum.inr E) v9))) : gd_G g mL_law d bc bs 402 [(0, zR 63 0), (1, zR 10 0), (2, zR 11 0), (3, zR 64 0), (4, zI (nI j))] [] v Q := by
  refine gd_aload_n 1 dL_law_402 rfl rfl ?_
  refine gd_aload_n 0 dL_law_403 rfl rfl ?_
  refine gd_iload 4 dL_law_404 rfl ?_
  refine gd_iconst (x9 := nI 1) dL_law_406 rfl ?_
  refine gd_iadd dL_law_407 ?_
  rw [nI_add]
  refine gd_iaload (k := 63) (i := 0) (n := v.2.2.2.2.2) ⟨by decide, by decide⟩ rfl dL_law_408 rfl (nu_in (by omega) (by omega)) ?_
  rw [nI_clamp (n := j + 1) (by omega)]
  refine gd_aload_n 0 dL_law_409 rfl rfl ?_
  refine gd_iload 4 dL_law_410 rfl ?_
  refine gd_iconst (x9 := nI 2) dL_law_412 rfl ?_
  refine gd_iadd dL_law_413 ?_
  rw [nI_add]
  refine gd_iaload (k := 63) (i := 0) (n := v.2.2.2.2.2) ⟨by decide, by decide⟩ rfl dL_law_414 rfl (nu_in (by omega) (by omega)) ?_
  rw [nI_clamp (n := j + 2) (by omega)]
  refine gd_aload_n 3 dL_law_415 rfl rfl ?_
  refine gd_callSHI (N := mL_stock) (dy := dy) (my := my) (sy := sy) (As := [zR 10 0, zI (v.1 63 0 (j + 1)), zI (v.1 63 0 (j + 2)), zR 64 0]) (rest := []) lL_101 tL_stock dL_law_416 rfl rfl ⟨hd, by show 8 + (5 + 11) + 60 * dy ≤ 60 * d; omega⟩ hb (Nat.le_of_ble_eq_true rfl) h ?_
  rintro k v1 ⟨e1, h⟩
  have hj1 : j + 5 < v1.2.2.2.2.2 := by rw [e1]; exact hj
  have hl1 : v1.2.2.2.2.2 ≤ 3072 := by rw [e1]; exact hl
  refine gd_istore dL_law_419 (Nat.le_of_ble_eq_true rfl) rfl ?_
  refine gd_aload_n 3 dL_law_421 rfl rfl ?_
  refine gd_aload_n 1 dL_law_422 rfl rfl ?_
  refine gd_iload 5 dL_law_423 rfl ?_
  refine gd_iconst (x9 := nI 1) dL_law_425 rfl ?_
  refine gd_iadd dL_law_426 ?_
  rw [nI_add]
  refine gd_iaload (k := 63) (i := 0) (n := v1.2.2.2.2.2) ⟨by decide, by decide⟩ rfl dL_law_427 rfl (nu_in (by omega) (by omega)) ?_
  rw [nI_clamp (n := j + 1) (by omega)]
  refine gd_aload_n 1 dL_law_428 rfl rfl ?_
  refine gd_iload 5 dL_law_429 rfl ?_
  refine gd_iconst (x9 := nI 2) dL_law_431 rfl ?_
  refine gd_iadd dL_law_432 ?_
  rw [nI_add]
  refine gd_iaload (k := 63) (i := 0) (n := v1.2.2.2.2.2) ⟨by decide, by decide⟩ rfl dL_law_433 rfl (nu_in (by omega) (by omega)) ?_
  rw [nI_clamp (n := j + 2) (by omega)]
  refine gd_callVI (N := mX11_stock) (dy := dz) (my := 0) (sy := 0) (k := 11) (i := 0) (As := [zI (v1.1 63 0 (j + 1)), zI (v1.1 63 0 (j + 2))]) (rest := []) lL_104 iX11_stock sX11_stock rfl dL_law_434 rfl rfl ⟨hz, by show 8 + (4 + 11) + 60 * dz ≤ 60 * d; omega⟩ ⟨Nat.zero_le _, Nat.zero_le _⟩ (Nat.le_of_ble_eq_true rfl) h ?_
  rintro y v2 h
  refine gd_istore dL_law_437 (Nat.le_of_ble_eq_true rfl) rfl ?_
  refine gd_aload_n 4 dL_law_439 rfl rfl ?_
  refine gd_callVI (N := mX11_thrown) (dy := 2) (my := 0) (sy := 0) (k := 11) (i := 0) (As := []) (rest := []) lL_90 iX11_thrown sX11_thrown rfl dL_law_440 rfl rfl ⟨ht, by show 8 + (1 + 11) + 60 * 2 ≤ 60 * d; omega⟩ ⟨Nat.zero_le _, Nat.zero_le _⟩ (Nat.le_of_ble_eq_true rfl) h ?_
  rintro t v3 ⟨e3, e4, h⟩
  refine gd_iload 1 dL_law_443 rfl ?_
  refine gd_icmp_eq dL_law_445 (tgt := 450) (by decide) (fun _ => ?_) (fun q => absurd e3 q)
  refine gd_iload 1 dL_law_450 rfl ?_
  refine gd_if_ne dL_law_452 (tgt := 467) (by decide) (fun _ => gd_goto dL_law_467 (tgt := 1458) (by decide) (gd_locals [2, 3, 4, 5, 6] rfl h)) (fun q => ?_)
  refine gd_aload_n 5 dL_law_455 rfl rfl ?_
  refine gd_iconst (x9 := nI 0) dL_law_456 rfl ?_
  refine gd_laload (k := 64) (i := 0) (n := 1) ⟨by decide, by decide⟩ rfl dL_law_457 rfl (nu_in (by decide) (by decide)) ?_
  rw [nI_clamp (n := 0) (by decide)]
  refine gd_iload 0 dL_law_458 rfl ?_
  refine gd_i2l dL_law_460 ?_
  exact gd_lc_eq dL_law_461 dL_law_462 (tgt := 467) (by decide) (fun _ => gd_goto dL_law_467 (tgt := 1458) (by decide) (gd_locals [2, 3, 4, 5, 6] rfl h)) (fun q9 => absurd (e4 q) q9)
theorem eL_mark {g : ab_E} {d bc bs j dy dz my sy : Nat} {v : gd_D} {Q : ab_O → gd_D → Prop} (hd : dy + 1 ≤ d) (hz : dz + 1 ≤ d) (ht : 2 + 1 ≤ d) (hj : j + 5 < v.2.2.2.2.2) (hl : v.2.2.2.2.2 ≤ 3072) (hb : my ≤ bc ∧ sy ≤ bs) (h : gd_CH hL_mark g mL_mark dy my sy [zR 10 0, zI (v.1 63 0 (j + 1)), zR 64 0] v (gd_rI (fun (k : Int32) v1 => v1.2.2.2.2.2 = v.2.2.2.2.2 ∧ gd_C g mX11_mark dz 0 0 [zR 11 0, zI (v1.1 63 0 (j + 1))] v1 (gd_rI (fun (y : Int32) v2 => gd_C g mX11_thrown 2 0 0 [zR 11 0] v2 (gd_rI (fun (t : Int32) v3 => t = k ∧ (k = 0 → v3.2.1 64 0 0 = y.toInt64) ∧ gd_G g mL_law d (bc - my) (bs - sy) 1458 [(0, zR 63 0), (1, zR 10 0), (2, zR 11 0), (3, zR 64 0), (4, zI (nI j))] [] v3 Q) (fun E v9 => Q (Sum.inr E) v9))) (fun E v9 => Q (Sum.inr E) v9))) (fun E v9 => Q (Sum.inr E) v9))) : gd_G g mL_law d bc bs 470 [(0, zR 63 0), (1, zR 10 0), (2, zR 11 0), (3, zR 64 0), (4, zI (nI j))] [] v Q := by
  refine gd_aload_n 1 dL_law_470 rfl rfl ?_
  refine gd_aload_n 0 dL_law_471 rfl rfl ?_
  refine gd_iload 4 dL_law_472 rfl ?_
  refine gd_iconst (x9 := nI 1) dL_law_474 rfl ?_
  refine gd_iadd dL_law_475 ?_
  rw [nI_add]
  refine gd_iaload (k := 63) (i := 0) (n := v.2.2.2.2.2) ⟨by decide, by decide⟩ rfl dL_law_476 rfl (nu_in (by omega) (by omega)) ?_
  rw [nI_clamp (n := j + 1) (by omega)]
  refine gd_aload_n 3 dL_law_477 rfl rfl ?_
  refine gd_callSHI (N := mL_mark) (dy := dy) (my := my) (sy := sy) (As := [zR 10 0, zI (v.1 63 0 (j + 1)), zR 64 0]) (rest := []) lL_105 tL_mark dL_law_478 rfl rfl ⟨hd, by show 8 + (4 + 11) + 60 * dy ≤ 60 * d; omega⟩ hb (Nat.le_of_ble_eq_true rfl) h ?_
  rintro k v1 ⟨e1, h⟩
  have hj1 : j + 5 < v1.2.2.2.2.2 := by rw [e1]; exact hj
  have hl1 : v1.2.2.2.2.2 ≤ 3072 := by rw [e1]; exact hl
  refine gd_istore dL_law_481 (Nat.le_of_ble_eq_true rfl) rfl ?_
  refine gd_aload_n 3 dL_law_483 rfl rfl ?_
  refine gd_aload_n 1 dL_law_484 rfl rfl ?_
  refine gd_iload 5 dL_law_485 rfl ?_
  refine gd_iconst (x9 := nI 1) dL_law_487 rfl ?_
  refine gd_iadd dL_law_488 ?_
  rw [nI_add]
  refine gd_iaload (k := 63) (i := 0) (n := v1.2.2.2.2.2) ⟨by decide, by decide⟩ rfl dL_law_489 rfl (nu_in (by omega) (by omega)) ?_
  rw [nI_clamp (n := j + 1) (by omega)]
  refine gd_callVI (N := mX11_mark) (dy := dz) (my := 0) (sy := 0) (k := 11) (i := 0) (As := [zI (v1.1 63 0 (j + 1))]) (rest := []) lL_107 iX11_mark sX11_mark rfl dL_law_490 rfl rfl ⟨hz, by show 8 + (3 + 11) + 60 * dz ≤ 60 * d; omega⟩ ⟨Nat.zero_le _, Nat.zero_le _⟩ (Nat.le_of_ble_eq_true rfl) h ?_
  rintro y v2 h
  refine gd_istore dL_law_493 (Nat.le_of_ble_eq_true rfl) rfl ?_
  refine gd_aload_n 4 dL_law_495 rfl rfl ?_
  refine gd_callVI (N := mX11_thrown) (dy := 2) (my := 0) (sy := 0) (k := 11) (i := 0) (As := []) (rest := []) lL_90 iX11_thrown sX11_thrown rfl dL_law_496 rfl rfl ⟨ht, by show 8 + (1 + 11) + 60 * 2 ≤ 60 * d; omega⟩ ⟨Nat.zero_le _, Nat.zero_le _⟩ (Nat.le_of_ble_eq_true rfl) h ?_
  rintro t v3 ⟨e3, e4, h⟩
  refine gd_iload 1 dL_law_499 rfl ?_
  refine gd_icmp_eq dL_law_501 (tgt := 506) (by decide) (fun _ => ?_) (fun q => absurd e3 q)
  refine gd_iload 1 dL_law_506 rfl ?_
  refine gd_if_ne dL_law_508 (tgt := 523) (by decide) (fun _ => gd_goto dL_law_523 (tgt := 1458) (by decide) (gd_locals [2, 3, 4, 5, 6] rfl h)) (fun q => ?_)
  refine gd_aload_n 5 dL_law_511 rfl rfl ?_
  refine gd_iconst (x9 := nI 0) dL_law_512 rfl ?_
  refine gd_laload (k := 64) (i := 0) (n := 1) ⟨by decide, by decide⟩ rfl dL_law_513 rfl (nu_in (by decide) (by decide)) ?_
  rw [nI_clamp (n := 0) (by decide)]
  refine gd_iload 0 dL_law_514 rfl ?_
  refine gd_i2l dL_law_516 ?_
  exact gd_lc_eq dL_law_517 dL_law_518 (tgt := 523) (by decide) (fun _ => gd_goto dL_law_523 (tgt := 1458) (by decide) (gd_locals [2, 3, 4, 5, 6] rfl h)) (fun q9 => absurd (e4 q) q9)
theorem eL_night {g : ab_E} {d bc bs j dy dz my sy : Nat} {v : gd_D} {Q : ab_O → gd_D → Prop} (hd : dy + 1 ≤ d) (hz : dz + 1 ≤ d) (ht : 2 + 1 ≤ d) (hj : j + 5 < v.2.2.2.2.2) (hl : v.2.2.2.2.2 ≤ 3072) (hb : my ≤ bc ∧ sy ≤ bs) (h : gd_CH hL_night g mL_night dy my sy [zR 10 0, zR 64 0] v (gd_rI (fun (k : Int32) v1 => v1.2.2.2.2.2 = v.2.2.2.2.2 ∧ gd_C g mX11_night dz 0 0 [zR 11 0] v1 (gd_rI (fun (y : Int32) v2 => gd_C g mX11_thrown 2 0 0 [zR 11 0] v2 (gd_rI (fun (t : Int32) v3 => t = k ∧ (k = 0 → v3.2.1 64 0 0 = y.toInt64) ∧ gd_G g mL_law d (bc - my) (bs - sy) 1458 [(0, zR 63 0), (1, zR 10 0), (2, zR 11 0), (3, zR 64 0), (4, zI (nI j))] [] v3 Q) (fun E v9 => Q (Sum.inr E) v9))) (fun E v9 => Q (Sum.inr E) v9))) (fun E v9 => Q (Sum.inr E) v9))) : gd_G g mL_law d bc bs 526 [(0, zR 63 0), (1, zR 10 0), (2, zR 11 0), (3, zR 64 0), (4, zI (nI j))] [] v Q := by
  refine gd_aload_n 1 dL_law_526 rfl rfl ?_
  refine gd_aload_n 3 dL_law_527 rfl rfl ?_
  refine gd_callSHI (N := mL_night) (dy := dy) (my := my) (sy := sy) (As := [zR 10 0, zR 64 0]) (rest := []) lL_108 tL_night dL_law_528 rfl rfl ⟨hd, by show 8 + (3 + 11) + 60 * dy ≤ 60 * d; omega⟩ hb (Nat.le_of_ble_eq_true rfl) h ?_
  rintro k v1 ⟨e1, h⟩
  have hj1 : j + 5 < v1.2.2.2.2.2 := by rw [e1]; exact hj
  have hl1 : v1.2.2.2.2.2 ≤ 3072 := by rw [e1]; exact hl
  refine gd_istore dL_law_531 (Nat.le_of_ble_eq_true rfl) rfl ?_
  refine gd_aload_n 3 dL_law_533 rfl rfl ?_
  refine gd_callVI (N := mX11_night) (dy := dz) (my := 0) (sy := 0) (k := 11) (i := 0) (As := []) (rest := []) lL_111 iX11_night sX11_night rfl dL_law_534 rfl rfl ⟨hz, by show 8 + (1 + 11) + 60 * dz ≤ 60 * d; omega⟩ ⟨Nat.zero_le _, Nat.zero_le _⟩ (Nat.le_of_ble_eq_true rfl) h ?_
  rintro y v2 h
  refine gd_istore dL_law_537 (Nat.le_of_ble_eq_true rfl) rfl ?_
  refine gd_aload_n 4 dL_law_539 rfl rfl ?_
  refine gd_callVI (N := mX11_thrown) (dy := 2) (my := 0) (sy := 0) (k := 11) (i := 0) (As := []) (rest := []) lL_90 iX11_thrown sX11_thrown rfl dL_law_540 rfl rfl ⟨ht, by show 8 + (1 + 11) + 60 * 2 ≤ 60 * d; omega⟩ ⟨Nat.zero_le _, Nat.zero_le _⟩ (Nat.le_of_ble_eq_true rfl) h ?_
  rintro t v3 ⟨e3, e4, h⟩
  refine gd_iload 1 dL_law_543 rfl ?_
  refine gd_icmp_eq dL_law_545 (tgt := 550) (by decide) (fun _ => ?_) (fun q => absurd e3 q)
  refine gd_iload 1 dL_law_550 rfl ?_
  refine gd_if_ne dL_law_552 (tgt := 567) (by decide) (fun _ => gd_goto dL_law_567 (tgt := 1458) (by decide) (gd_locals [2, 3, 4, 5, 6] rfl h)) (fun q => ?_)
  refine gd_aload_n 5 dL_law_555 rfl rfl ?_
  refine gd_iconst (x9 := nI 0) dL_law_556 rfl ?_
  refine gd_laload (k := 64) (i := 0) (n := 1) ⟨by decide, by decide⟩ rfl dL_law_557 rfl (nu_in (by decide) (by decide)) ?_
  rw [nI_clamp (n := 0) (by decide)]
  refine gd_iload 0 dL_law_558 rfl ?_
  refine gd_i2l dL_law_560 ?_
  exact gd_lc_eq dL_law_561 dL_law_562 (tgt := 567) (by decide) (fun _ => gd_goto dL_law_567 (tgt := 1458) (by decide) (gd_locals [2, 3, 4, 5, 6] rfl h)) (fun q9 => absurd (e4 q) q9)
theorem eL_buyin {g : ab_E} {d bc bs j dy dz my sy : Nat} {v : gd_D} {Q : ab_O → gd_D → Prop} (hd : dy + 1 ≤ d) (hz : dz + 1 ≤ d) (ht : 2 + 1 ≤ d) (hj : j + 5 < v.2.2.2.2.2) (hl : v.2.2.2.2.2 ≤ 3072) (hb : my ≤ bc ∧ sy ≤ bs) (h : gd_CH hL_buyin g mL_buyin dy my sy [zR 10 0, zI (v.1 63 0 (j + 1)), zI (v.1 63 0 (j + 2)), zR 64 0] v (gd_rI (fun (k : Int32) v1 => v1.2.2.2.2.2 = v.2.2.2.2.2 ∧ gd_C g mX11_buyin dz 0 0 [zR 11 0, zI (v1.1 63 0 (j + 1)), zI (v1.1 63 0 (j + 2))] v1 (gd_rI (fun (y : Int32) v2 => gd_C g mX11_thrown 2 0 0 [zR 11 0] v2 (gd_rI (fun (t : Int32) v3 => t = k ∧ (k = 0 → v3.2.1 64 0 0 = y.toInt64) ∧ gd_G g mL_law d (bc - my) (bs - sy) 1458 [(0, zR 63 0), (1, zR 10 0), (2, zR 11 0), (3, zR 64 0), (4, zI (nI j))] [] v3 Q) (fun E v9 => Q (Sum.inr E) v9))) (fun E v9 => Q (Sum.inr E) v9))) (fun E v9 => Q (Sum.inr E) v9))) : gd_G g mL_law d bc bs 570 [(0, zR 63 0), (1, zR 10 0), (2, zR 11 0), (3, zR 64 0), (4, zI (nI j))] [] v Q := by
  refine gd_aload_n 1 dL_law_570 rfl rfl ?_
  refine gd_aload_n 0 dL_law_571 rfl rfl ?_
  refine gd_iload 4 dL_law_572 rfl ?_
  refine gd_iconst (x9 := nI 1) dL_law_574 rfl ?_
  refine gd_iadd dL_law_575 ?_
  rw [nI_add]
  refine gd_iaload (k := 63) (i := 0) (n := v.2.2.2.2.2) ⟨by decide, by decide⟩ rfl dL_law_576 rfl (nu_in (by omega) (by omega)) ?_
  rw [nI_clamp (n := j + 1) (by omega)]
  refine gd_aload_n 0 dL_law_577 rfl rfl ?_
  refine gd_iload 4 dL_law_578 rfl ?_
  refine gd_iconst (x9 := nI 2) dL_law_580 rfl ?_
  refine gd_iadd dL_law_581 ?_
  rw [nI_add]
  refine gd_iaload (k := 63) (i := 0) (n := v.2.2.2.2.2) ⟨by decide, by decide⟩ rfl dL_law_582 rfl (nu_in (by omega) (by omega)) ?_
  rw [nI_clamp (n := j + 2) (by omega)]
  refine gd_aload_n 3 dL_law_583 rfl rfl ?_
  refine gd_callSHI (N := mL_buyin) (dy := dy) (my := my) (sy := sy) (As := [zR 10 0, zI (v.1 63 0 (j + 1)), zI (v.1 63 0 (j + 2)), zR 64 0]) (rest := []) lL_112 tL_buyin dL_law_584 rfl rfl ⟨hd, by show 8 + (5 + 11) + 60 * dy ≤ 60 * d; omega⟩ hb (Nat.le_of_ble_eq_true rfl) h ?_
  rintro k v1 ⟨e1, h⟩
  have hj1 : j + 5 < v1.2.2.2.2.2 := by rw [e1]; exact hj
  have hl1 : v1.2.2.2.2.2 ≤ 3072 := by rw [e1]; exact hl
  refine gd_istore dL_law_587 (Nat.le_of_ble_eq_true rfl) rfl ?_
  refine gd_aload_n 3 dL_law_589 rfl rfl ?_
  refine gd_aload_n 1 dL_law_590 rfl rfl ?_
  refine gd_iload 5 dL_law_591 rfl ?_
  refine gd_iconst (x9 := nI 1) dL_law_593 rfl ?_
  refine gd_iadd dL_law_594 ?_
  rw [nI_add]
  refine gd_iaload (k := 63) (i := 0) (n := v1.2.2.2.2.2) ⟨by decide, by decide⟩ rfl dL_law_595 rfl (nu_in (by omega) (by omega)) ?_
  rw [nI_clamp (n := j + 1) (by omega)]
  refine gd_aload_n 1 dL_law_596 rfl rfl ?_
  refine gd_iload 5 dL_law_597 rfl ?_
  refine gd_iconst (x9 := nI 2) dL_law_599 rfl ?_
  refine gd_iadd dL_law_600 ?_
  rw [nI_add]
  refine gd_iaload (k := 63) (i := 0) (n := v1.2.2.2.2.2) ⟨by decide, by decide⟩ rfl dL_law_601 rfl (nu_in (by omega) (by omega)) ?_
  rw [nI_clamp (n := j + 2) (by omega)]
  refine gd_callVI (N := mX11_buyin) (dy := dz) (my := 0) (sy := 0) (k := 11) (i := 0) (As := [zI (v1.1 63 0 (j + 1)), zI (v1.1 63 0 (j + 2))]) (rest := []) lL_114 iX11_buyin sX11_buyin rfl dL_law_602 rfl rfl ⟨hz, by show 8 + (3 + 11) + 60 * dz ≤ 60 * d; omega⟩ ⟨Nat.zero_le _, Nat.zero_le _⟩ (Nat.le_of_ble_eq_true rfl) h ?_
  rintro y v2 h
  refine gd_istore dL_law_605 (Nat.le_of_ble_eq_true rfl) rfl ?_
  refine gd_aload_n 4 dL_law_607 rfl rfl ?_
  refine gd_callVI (N := mX11_thrown) (dy := 2) (my := 0) (sy := 0) (k := 11) (i := 0) (As := []) (rest := []) lL_90 iX11_thrown sX11_thrown rfl dL_law_608 rfl rfl ⟨ht, by show 8 + (1 + 11) + 60 * 2 ≤ 60 * d; omega⟩ ⟨Nat.zero_le _, Nat.zero_le _⟩ (Nat.le_of_ble_eq_true rfl) h ?_
  rintro t v3 ⟨e3, e4, h⟩
  refine gd_iload 1 dL_law_611 rfl ?_
  refine gd_icmp_eq dL_law_613 (tgt := 618) (by decide) (fun _ => ?_) (fun q => absurd e3 q)
  refine gd_iload 1 dL_law_618 rfl ?_
  refine gd_if_ne dL_law_620 (tgt := 635) (by decide) (fun _ => gd_goto dL_law_635 (tgt := 1458) (by decide) (gd_locals [2, 3, 4, 5, 6] rfl h)) (fun q => ?_)
  refine gd_aload_n 5 dL_law_623 rfl rfl ?_
  refine gd_iconst (x9 := nI 0) dL_law_624 rfl ?_
  refine gd_laload (k := 64) (i := 0) (n := 1) ⟨by decide, by decide⟩ rfl dL_law_625 rfl (nu_in (by decide) (by decide)) ?_
  rw [nI_clamp (n := 0) (by decide)]
  refine gd_iload 0 dL_law_626 rfl ?_
  refine gd_i2l dL_law_628 ?_
  exact gd_lc_eq dL_law_629 dL_law_630 (tgt := 635) (by decide) (fun _ => gd_goto dL_law_635 (tgt := 1458) (by decide) (gd_locals [2, 3, 4, 5, 6] rfl h)) (fun q9 => absurd (e4 q) q9)
theorem eL_undo {g : ab_E} {d bc bs j dy dz my sy : Nat} {v : gd_D} {Q : ab_O → gd_D → Prop} (hd : dy + 1 ≤ d) (hz : dz + 1 ≤ d) (ht : 2 + 1 ≤ d) (hj : j + 5 < v.2.2.2.2.2) (hl : v.2.2.2.2.2 ≤ 3072) (hb : my ≤ bc ∧ sy ≤ bs) (h : gd_C g mX10_undo dy my sy [zR 10 0] v (gd_rI (fun (k : Int32) v1 => v1.2.2.2.2.2 = v.2.2.2.2.2 ∧ gd_C g mX11_undo dz 0 0 [zR 11 0] v1 (gd_rI (fun (y : Int32) v2 => k = y ∧ gd_G g mL_law d (bc - my) (bs - sy) 1458 [(0, zR 63 0), (1, zR 10 0), (2, zR 11 0), (3, zR 64 0), (4, zI (nI j))] [] v2 Q) (fun E v9 => Q (Sum.inr E) v9))) (fun E v9 => Q (Sum.inr E) v9))) : gd_G g mL_law d bc bs 638 [(0, zR 63 0), (1, zR 10 0), (2, zR 11 0), (3, zR 64 0), (4, zI (nI j))] [] v Q := by
  refine gd_aload_n 1 dL_law_638 rfl rfl ?_
  refine gd_callVI (N := mX10_undo) (dy := dy) (my := my) (sy := sy) (k := 10) (i := 0) (As := []) (rest := []) lL_115 iX10_undo sX10_undo rfl dL_law_639 rfl rfl ⟨hd, by show 8 + (1 + 11) + 60 * dy ≤ 60 * d; omega⟩ hb (Nat.le_of_ble_eq_true rfl) h ?_
  rintro k v1 ⟨e1, h⟩
  have hj1 : j + 5 < v1.2.2.2.2.2 := by rw [e1]; exact hj
  have hl1 : v1.2.2.2.2.2 ≤ 3072 := by rw [e1]; exact hl
  refine gd_aload_n 2 dL_law_642 rfl rfl ?_
  refine gd_callVI (N := mX11_undo) (dy := dz) (my := 0) (sy := 0) (k := 11) (i := 0) (As := []) (rest := [zI k]) lL_118 iX11_undo sX11_undo rfl dL_law_643 rfl rfl ⟨hz, by show 8 + (2 + 11) + 60 * dz ≤ 60 * d; omega⟩ ⟨Nat.zero_le _, Nat.zero_le _⟩ (Nat.le_of_ble_eq_true rfl) h ?_
  rintro y v2 ⟨e2, h⟩
  exact gd_icmp_eq dL_law_646 (tgt := 1458) (by decide) (fun _ => h) (fun q => absurd e2 q)
theorem eL_told {g : ab_E} {d bc bs j dy dz my sy : Nat} {v : gd_D} {Q : ab_O → gd_D → Prop} (hd : dy + 1 ≤ d) (hz : dz + 1 ≤ d) (ht : 2 + 1 ≤ d) (hj : j + 5 < v.2.2.2.2.2) (hl : v.2.2.2.2.2 ≤ 3072) (hb : my ≤ bc ∧ sy ≤ bs) (h : gd_CH hL_told g mL_told dy my sy [zR 10 0, zI (v.1 63 0 (j + 1)), zR 64 0] v (gd_rI (fun (k : Int32) v1 => v1.2.2.2.2.2 = v.2.2.2.2.2 ∧ gd_C g mX11_told dz 0 0 [zR 11 0, zI (v1.1 63 0 (j + 1))] v1 (gd_rI (fun (y : Int32) v2 => gd_C g mX11_thrown 2 0 0 [zR 11 0] v2 (gd_rI (fun (t : Int32) v3 => t = k ∧ (k = 0 → v3.2.1 64 0 0 = y.toInt64) ∧ gd_G g mL_law d (bc - my) (bs - sy) 1458 [(0, zR 63 0), (1, zR 10 0), (2, zR 11 0), (3, zR 64 0), (4, zI (nI j))] [] v3 Q) (fun E v9 => Q (Sum.inr E) v9))) (fun E v9 => Q (Sum.inr E) v9))) (fun E v9 => Q (Sum.inr E) v9))) : gd_G g mL_law d bc bs 651 [(0, zR 63 0), (1, zR 10 0), (2, zR 11 0), (3, zR 64 0), (4, zI (nI j))] [] v Q := by
  refine gd_aload_n 1 dL_law_651 rfl rfl ?_
  refine gd_aload_n 0 dL_law_652 rfl rfl ?_
  refine gd_iload 4 dL_law_653 rfl ?_
  refine gd_iconst (x9 := nI 1) dL_law_655 rfl ?_
  refine gd_iadd dL_law_656 ?_
  rw [nI_add]
  refine gd_iaload (k := 63) (i := 0) (n := v.2.2.2.2.2) ⟨by decide, by decide⟩ rfl dL_law_657 rfl (nu_in (by omega) (by omega)) ?_
  rw [nI_clamp (n := j + 1) (by omega)]
  refine gd_aload_n 3 dL_law_658 rfl rfl ?_
  refine gd_callSHI (N := mL_told) (dy := dy) (my := my) (sy := sy) (As := [zR 10 0, zI (v.1 63 0 (j + 1)), zR 64 0]) (rest := []) lL_119 tL_told dL_law_659 rfl rfl ⟨hd, by show 8 + (4 + 11) + 60 * dy ≤ 60 * d; omega⟩ hb (Nat.le_of_ble_eq_true rfl) h ?_
  rintro k v1 ⟨e1, h⟩
  have hj1 : j + 5 < v1.2.2.2.2.2 := by rw [e1]; exact hj
  have hl1 : v1.2.2.2.2.2 ≤ 3072 := by rw [e1]; exact hl
  refine gd_istore dL_law_662 (Nat.le_of_ble_eq_true rfl) rfl ?_
  refine gd_aload_n 3 dL_law_664 rfl rfl ?_
  refine gd_aload_n 1 dL_law_665 rfl rfl ?_
  refine gd_iload 5 dL_law_666 rfl ?_
  refine gd_iconst (x9 := nI 1) dL_law_668 rfl ?_
  refine gd_iadd dL_law_669 ?_
  rw [nI_add]
  refine gd_iaload (k := 63) (i := 0) (n := v1.2.2.2.2.2) ⟨by decide, by decide⟩ rfl dL_law_670 rfl (nu_in (by omega) (by omega)) ?_
  rw [nI_clamp (n := j + 1) (by omega)]
  refine gd_callVI (N := mX11_told) (dy := dz) (my := 0) (sy := 0) (k := 11) (i := 0) (As := [zI (v1.1 63 0 (j + 1))]) (rest := []) lL_121 iX11_told sX11_told rfl dL_law_671 rfl rfl ⟨hz, by show 8 + (2 + 11) + 60 * dz ≤ 60 * d; omega⟩ ⟨Nat.zero_le _, Nat.zero_le _⟩ (Nat.le_of_ble_eq_true rfl) h ?_
  rintro y v2 h
  refine gd_istore dL_law_674 (Nat.le_of_ble_eq_true rfl) rfl ?_
  refine gd_aload_n 4 dL_law_676 rfl rfl ?_
  refine gd_callVI (N := mX11_thrown) (dy := 2) (my := 0) (sy := 0) (k := 11) (i := 0) (As := []) (rest := []) lL_90 iX11_thrown sX11_thrown rfl dL_law_677 rfl rfl ⟨ht, by show 8 + (1 + 11) + 60 * 2 ≤ 60 * d; omega⟩ ⟨Nat.zero_le _, Nat.zero_le _⟩ (Nat.le_of_ble_eq_true rfl) h ?_
  rintro t v3 ⟨e3, e4, h⟩
  refine gd_iload 1 dL_law_680 rfl ?_
  refine gd_icmp_eq dL_law_682 (tgt := 687) (by decide) (fun _ => ?_) (fun q => absurd e3 q)
  refine gd_iload 1 dL_law_687 rfl ?_
  refine gd_if_ne dL_law_689 (tgt := 704) (by decide) (fun _ => gd_goto dL_law_704 (tgt := 1458) (by decide) (gd_locals [2, 3, 4, 5, 6] rfl h)) (fun q => ?_)
  refine gd_aload_n 5 dL_law_692 rfl rfl ?_
  refine gd_iconst (x9 := nI 0) dL_law_693 rfl ?_
  refine gd_laload (k := 64) (i := 0) (n := 1) ⟨by decide, by decide⟩ rfl dL_law_694 rfl (nu_in (by decide) (by decide)) ?_
  rw [nI_clamp (n := 0) (by decide)]
  refine gd_iload 0 dL_law_695 rfl ?_
  refine gd_i2l dL_law_697 ?_
  exact gd_lc_eq dL_law_698 dL_law_699 (tgt := 704) (by decide) (fun _ => gd_goto dL_law_704 (tgt := 1458) (by decide) (gd_locals [2, 3, 4, 5, 6] rfl h)) (fun q9 => absurd (e4 q) q9)
theorem eL_dealer {g : ab_E} {d bc bs j dy dz my sy : Nat} {v : gd_D} {Q : ab_O → gd_D → Prop} (hd : dy + 1 ≤ d) (hz : dz + 1 ≤ d) (ht : 2 + 1 ≤ d) (hj : j + 5 < v.2.2.2.2.2) (hl : v.2.2.2.2.2 ≤ 3072) (hb : my ≤ bc ∧ sy ≤ bs) (h : gd_CH hL_dealer g mL_dealer dy my sy [zR 10 0, zI (v.1 63 0 (j + 1)), zI (v.1 63 0 (j + 2)), zR 64 0] v (gd_rI (fun (k : Int32) v1 => v1.2.2.2.2.2 = v.2.2.2.2.2 ∧ gd_C g mX11_dealer dz 0 0 [zR 11 0, zI (v1.1 63 0 (j + 1)), zI (v1.1 63 0 (j + 2))] v1 (gd_rJ (fun (y : Int64) v2 => gd_C g mX11_thrown 2 0 0 [zR 11 0] v2 (gd_rI (fun (t : Int32) v3 => t = k ∧ (k = 0 → v3.2.1 64 0 0 = y) ∧ gd_G g mL_law d (bc - my) (bs - sy) 1458 [(0, zR 63 0), (1, zR 10 0), (2, zR 11 0), (3, zR 64 0), (4, zI (nI j))] [] v3 Q) (fun E v9 => Q (Sum.inr E) v9))) (fun E v9 => Q (Sum.inr E) v9))) (fun E v9 => Q (Sum.inr E) v9))) : gd_G g mL_law d bc bs 707 [(0, zR 63 0), (1, zR 10 0), (2, zR 11 0), (3, zR 64 0), (4, zI (nI j))] [] v Q := by
  refine gd_aload_n 1 dL_law_707 rfl rfl ?_
  refine gd_aload_n 0 dL_law_708 rfl rfl ?_
  refine gd_iload 4 dL_law_709 rfl ?_
  refine gd_iconst (x9 := nI 1) dL_law_711 rfl ?_
  refine gd_iadd dL_law_712 ?_
  rw [nI_add]
  refine gd_iaload (k := 63) (i := 0) (n := v.2.2.2.2.2) ⟨by decide, by decide⟩ rfl dL_law_713 rfl (nu_in (by omega) (by omega)) ?_
  rw [nI_clamp (n := j + 1) (by omega)]
  refine gd_aload_n 0 dL_law_714 rfl rfl ?_
  refine gd_iload 4 dL_law_715 rfl ?_
  refine gd_iconst (x9 := nI 2) dL_law_717 rfl ?_
  refine gd_iadd dL_law_718 ?_
  rw [nI_add]
  refine gd_iaload (k := 63) (i := 0) (n := v.2.2.2.2.2) ⟨by decide, by decide⟩ rfl dL_law_719 rfl (nu_in (by omega) (by omega)) ?_
  rw [nI_clamp (n := j + 2) (by omega)]
  refine gd_aload_n 3 dL_law_720 rfl rfl ?_
  refine gd_callSHI (N := mL_dealer) (dy := dy) (my := my) (sy := sy) (As := [zR 10 0, zI (v.1 63 0 (j + 1)), zI (v.1 63 0 (j + 2)), zR 64 0]) (rest := []) lL_122 tL_dealer dL_law_721 rfl rfl ⟨hd, by show 8 + (5 + 11) + 60 * dy ≤ 60 * d; omega⟩ hb (Nat.le_of_ble_eq_true rfl) h ?_
  rintro k v1 ⟨e1, h⟩
  have hj1 : j + 5 < v1.2.2.2.2.2 := by rw [e1]; exact hj
  have hl1 : v1.2.2.2.2.2 ≤ 3072 := by rw [e1]; exact hl
  refine gd_istore dL_law_724 (Nat.le_of_ble_eq_true rfl) rfl ?_
  refine gd_aload_n 3 dL_law_726 rfl rfl ?_
  refine gd_aload_n 1 dL_law_727 rfl rfl ?_
  refine gd_iload 5 dL_law_728 rfl ?_
  refine gd_iconst (x9 := nI 1) dL_law_730 rfl ?_
  refine gd_iadd dL_law_731 ?_
  rw [nI_add]
  refine gd_iaload (k := 63) (i := 0) (n := v1.2.2.2.2.2) ⟨by decide, by decide⟩ rfl dL_law_732 rfl (nu_in (by omega) (by omega)) ?_
  rw [nI_clamp (n := j + 1) (by omega)]
  refine gd_aload_n 1 dL_law_733 rfl rfl ?_
  refine gd_iload 5 dL_law_734 rfl ?_
  refine gd_iconst (x9 := nI 2) dL_law_736 rfl ?_
  refine gd_iadd dL_law_737 ?_
  rw [nI_add]
  refine gd_iaload (k := 63) (i := 0) (n := v1.2.2.2.2.2) ⟨by decide, by decide⟩ rfl dL_law_738 rfl (nu_in (by omega) (by omega)) ?_
  rw [nI_clamp (n := j + 2) (by omega)]
  refine gd_callVJ (N := mX11_dealer) (dy := dz) (my := 0) (sy := 0) (k := 11) (i := 0) (As := [zI (v1.1 63 0 (j + 1)), zI (v1.1 63 0 (j + 2))]) (rest := []) lL_124 iX11_dealer sX11_dealer rfl dL_law_739 rfl rfl ⟨hz, by show 8 + (3 + 11) + 60 * dz ≤ 60 * d; omega⟩ ⟨Nat.zero_le _, Nat.zero_le _⟩ (Nat.le_of_ble_eq_true rfl) h ?_
  rintro y v2 h
  refine gd_lstore dL_law_742 (Nat.le_of_ble_eq_true rfl) rfl ?_
  refine gd_aload_n 4 dL_law_744 rfl rfl ?_
  refine gd_callVI (N := mX11_thrown) (dy := 2) (my := 0) (sy := 0) (k := 11) (i := 0) (As := []) (rest := []) lL_90 iX11_thrown sX11_thrown rfl dL_law_745 rfl rfl ⟨ht, by show 8 + (1 + 11) + 60 * 2 ≤ 60 * d; omega⟩ ⟨Nat.zero_le _, Nat.zero_le _⟩ (Nat.le_of_ble_eq_true rfl) h ?_
  rintro t v3 ⟨e3, e4, h⟩
  refine gd_iload 1 dL_law_748 rfl ?_
  refine gd_icmp_eq dL_law_750 (tgt := 755) (by decide) (fun _ => ?_) (fun q => absurd e3 q)
  refine gd_iload 1 dL_law_755 rfl ?_
  refine gd_if_ne dL_law_757 (tgt := 771) (by decide) (fun _ => gd_goto dL_law_771 (tgt := 1458) (by decide) (gd_locals [2, 3, 4, 5, 6] rfl h)) (fun q => ?_)
  refine gd_aload_n 5 dL_law_760 rfl rfl ?_
  refine gd_iconst (x9 := nI 0) dL_law_761 rfl ?_
  refine gd_laload (k := 64) (i := 0) (n := 1) ⟨by decide, by decide⟩ rfl dL_law_762 rfl (nu_in (by decide) (by decide)) ?_
  rw [nI_clamp (n := 0) (by decide)]
  refine gd_lload 0 dL_law_763 rfl ?_
  exact gd_lc_eq dL_law_765 dL_law_766 (tgt := 771) (by decide) (fun _ => gd_goto dL_law_771 (tgt := 1458) (by decide) (gd_locals [2, 3, 4, 5, 6] rfl h)) (fun q9 => absurd (e4 q) q9)
theorem eL_of {g : ab_E} {d bc bs j dy dz my sy : Nat} {v : gd_D} {Q : ab_O → gd_D → Prop} (hd : dy + 1 ≤ d) (hz : dz + 1 ≤ d) (ht : 2 + 1 ≤ d) (hj : j + 5 < v.2.2.2.2.2) (hl : v.2.2.2.2.2 ≤ 3072) (hb : my ≤ bc ∧ sy ≤ bs) (h : gd_CH hL_of g mL_of dy my sy [zR 10 0, zI (v.1 63 0 (j + 1)), zI (v.1 63 0 (j + 2)), zR 64 0] v (gd_rI (fun (k : Int32) v1 => v1.2.2.2.2.2 = v.2.2.2.2.2 ∧ gd_C g mX11_of dz 0 0 [zR 11 0, zI (v1.1 63 0 (j + 1)), zI (v1.1 63 0 (j + 2))] v1 (gd_rI (fun (y : Int32) v2 => gd_C g mX11_thrown 2 0 0 [zR 11 0] v2 (gd_rI (fun (t : Int32) v3 => t = k ∧ (k = 0 → v3.2.1 64 0 0 = y.toInt64) ∧ gd_G g mL_law d (bc - my) (bs - sy) 1458 [(0, zR 63 0), (1, zR 10 0), (2, zR 11 0), (3, zR 64 0), (4, zI (nI j))] [] v3 Q) (fun E v9 => Q (Sum.inr E) v9))) (fun E v9 => Q (Sum.inr E) v9))) (fun E v9 => Q (Sum.inr E) v9))) : gd_G g mL_law d bc bs 774 [(0, zR 63 0), (1, zR 10 0), (2, zR 11 0), (3, zR 64 0), (4, zI (nI j))] [] v Q := by
  refine gd_aload_n 1 dL_law_774 rfl rfl ?_
  refine gd_aload_n 0 dL_law_775 rfl rfl ?_
  refine gd_iload 4 dL_law_776 rfl ?_
  refine gd_iconst (x9 := nI 1) dL_law_778 rfl ?_
  refine gd_iadd dL_law_779 ?_
  rw [nI_add]
  refine gd_iaload (k := 63) (i := 0) (n := v.2.2.2.2.2) ⟨by decide, by decide⟩ rfl dL_law_780 rfl (nu_in (by omega) (by omega)) ?_
  rw [nI_clamp (n := j + 1) (by omega)]
  refine gd_aload_n 0 dL_law_781 rfl rfl ?_
  refine gd_iload 4 dL_law_782 rfl ?_
  refine gd_iconst (x9 := nI 2) dL_law_784 rfl ?_
  refine gd_iadd dL_law_785 ?_
  rw [nI_add]
  refine gd_iaload (k := 63) (i := 0) (n := v.2.2.2.2.2) ⟨by decide, by decide⟩ rfl dL_law_786 rfl (nu_in (by omega) (by omega)) ?_
  rw [nI_clamp (n := j + 2) (by omega)]
  refine gd_aload_n 3 dL_law_787 rfl rfl ?_
  refine gd_callSHI (N := mL_of) (dy := dy) (my := my) (sy := sy) (As := [zR 10 0, zI (v.1 63 0 (j + 1)), zI (v.1 63 0 (j + 2)), zR 64 0]) (rest := []) lL_125 tL_of dL_law_788 rfl rfl ⟨hd, by show 8 + (5 + 11) + 60 * dy ≤ 60 * d; omega⟩ hb (Nat.le_of_ble_eq_true rfl) h ?_
  rintro k v1 ⟨e1, h⟩
  have hj1 : j + 5 < v1.2.2.2.2.2 := by rw [e1]; exact hj
  have hl1 : v1.2.2.2.2.2 ≤ 3072 := by rw [e1]; exact hl
  refine gd_istore dL_law_791 (Nat.le_of_ble_eq_true rfl) rfl ?_
  refine gd_aload_n 3 dL_law_793 rfl rfl ?_
  refine gd_aload_n 1 dL_law_794 rfl rfl ?_
  refine gd_iload 5 dL_law_795 rfl ?_
  refine gd_iconst (x9 := nI 1) dL_law_797 rfl ?_
  refine gd_iadd dL_law_798 ?_
  rw [nI_add]
  refine gd_iaload (k := 63) (i := 0) (n := v1.2.2.2.2.2) ⟨by decide, by decide⟩ rfl dL_law_799 rfl (nu_in (by omega) (by omega)) ?_
  rw [nI_clamp (n := j + 1) (by omega)]
  refine gd_aload_n 1 dL_law_800 rfl rfl ?_
  refine gd_iload 5 dL_law_801 rfl ?_
  refine gd_iconst (x9 := nI 2) dL_law_803 rfl ?_
  refine gd_iadd dL_law_804 ?_
  rw [nI_add]
  refine gd_iaload (k := 63) (i := 0) (n := v1.2.2.2.2.2) ⟨by decide, by decide⟩ rfl dL_law_805 rfl (nu_in (by omega) (by omega)) ?_
  rw [nI_clamp (n := j + 2) (by omega)]
  refine gd_callVI (N := mX11_of) (dy := dz) (my := 0) (sy := 0) (k := 11) (i := 0) (As := [zI (v1.1 63 0 (j + 1)), zI (v1.1 63 0 (j + 2))]) (rest := []) lL_127 iX11_of sX11_of rfl dL_law_806 rfl rfl ⟨hz, by show 8 + (4 + 11) + 60 * dz ≤ 60 * d; omega⟩ ⟨Nat.zero_le _, Nat.zero_le _⟩ (Nat.le_of_ble_eq_true rfl) h ?_
  rintro y v2 h
  refine gd_istore dL_law_809 (Nat.le_of_ble_eq_true rfl) rfl ?_
  refine gd_aload_n 4 dL_law_811 rfl rfl ?_
  refine gd_callVI (N := mX11_thrown) (dy := 2) (my := 0) (sy := 0) (k := 11) (i := 0) (As := []) (rest := []) lL_90 iX11_thrown sX11_thrown rfl dL_law_812 rfl rfl ⟨ht, by show 8 + (1 + 11) + 60 * 2 ≤ 60 * d; omega⟩ ⟨Nat.zero_le _, Nat.zero_le _⟩ (Nat.le_of_ble_eq_true rfl) h ?_
  rintro t v3 ⟨e3, e4, h⟩
  refine gd_iload 1 dL_law_815 rfl ?_
  refine gd_icmp_eq dL_law_817 (tgt := 822) (by decide) (fun _ => ?_) (fun q => absurd e3 q)
  refine gd_iload 1 dL_law_822 rfl ?_
  refine gd_if_ne dL_law_824 (tgt := 839) (by decide) (fun _ => gd_goto dL_law_839 (tgt := 1458) (by decide) (gd_locals [2, 3, 4, 5, 6] rfl h)) (fun q => ?_)
  refine gd_aload_n 5 dL_law_827 rfl rfl ?_
  refine gd_iconst (x9 := nI 0) dL_law_828 rfl ?_
  refine gd_laload (k := 64) (i := 0) (n := 1) ⟨by decide, by decide⟩ rfl dL_law_829 rfl (nu_in (by decide) (by decide)) ?_
  rw [nI_clamp (n := 0) (by decide)]
  refine gd_iload 0 dL_law_830 rfl ?_
  refine gd_i2l dL_law_832 ?_
  exact gd_lc_eq dL_law_833 dL_law_834 (tgt := 839) (by decide) (fun _ => gd_goto dL_law_839 (tgt := 1458) (by decide) (gd_locals [2, 3, 4, 5, 6] rfl h)) (fun q9 => absurd (e4 q) q9)
theorem eL_rule {g : ab_E} {d bc bs j dy dz my sy : Nat} {v : gd_D} {Q : ab_O → gd_D → Prop} (hd : dy + 1 ≤ d) (hz : dz + 1 ≤ d) (ht : 2 + 1 ≤ d) (hj : j + 5 < v.2.2.2.2.2) (hl : v.2.2.2.2.2 ≤ 3072) (hb : my ≤ bc ∧ sy ≤ bs) (h : gd_CH hL_rule g mL_rule dy my sy [zR 10 0, zI (v.1 63 0 (j + 1)), zR 64 0] v (gd_rI (fun (k : Int32) v1 => v1.2.2.2.2.2 = v.2.2.2.2.2 ∧ gd_C g mX11_rule dz 0 0 [zR 11 0, zI (v1.1 63 0 (j + 1))] v1 (gd_rJ (fun (y : Int64) v2 => gd_C g mX11_thrown 2 0 0 [zR 11 0] v2 (gd_rI (fun (t : Int32) v3 => t = k ∧ (k = 0 → v3.2.1 64 0 0 = y) ∧ gd_G g mL_law d (bc - my) (bs - sy) 1458 [(0, zR 63 0), (1, zR 10 0), (2, zR 11 0), (3, zR 64 0), (4, zI (nI j))] [] v3 Q) (fun E v9 => Q (Sum.inr E) v9))) (fun E v9 => Q (Sum.inr E) v9))) (fun E v9 => Q (Sum.inr E) v9))) : gd_G g mL_law d bc bs 842 [(0, zR 63 0), (1, zR 10 0), (2, zR 11 0), (3, zR 64 0), (4, zI (nI j))] [] v Q := by
  refine gd_aload_n 1 dL_law_842 rfl rfl ?_
  refine gd_aload_n 0 dL_law_843 rfl rfl ?_
  refine gd_iload 4 dL_law_844 rfl ?_
  refine gd_iconst (x9 := nI 1) dL_law_846 rfl ?_
  refine gd_iadd dL_law_847 ?_
  rw [nI_add]
  refine gd_iaload (k := 63) (i := 0) (n := v.2.2.2.2.2) ⟨by decide, by decide⟩ rfl dL_law_848 rfl (nu_in (by omega) (by omega)) ?_
  rw [nI_clamp (n := j + 1) (by omega)]
  refine gd_aload_n 3 dL_law_849 rfl rfl ?_
  refine gd_callSHI (N := mL_rule) (dy := dy) (my := my) (sy := sy) (As := [zR 10 0, zI (v.1 63 0 (j + 1)), zR 64 0]) (rest := []) lL_128 tL_rule dL_law_850 rfl rfl ⟨hd, by show 8 + (4 + 11) + 60 * dy ≤ 60 * d; omega⟩ hb (Nat.le_of_ble_eq_true rfl) h ?_
  rintro k v1 ⟨e1, h⟩
  have hj1 : j + 5 < v1.2.2.2.2.2 := by rw [e1]; exact hj
  have hl1 : v1.2.2.2.2.2 ≤ 3072 := by rw [e1]; exact hl
  refine gd_istore dL_law_853 (Nat.le_of_ble_eq_true rfl) rfl ?_
  refine gd_aload_n 3 dL_law_855 rfl rfl ?_
  refine gd_aload_n 1 dL_law_856 rfl rfl ?_
  refine gd_iload 5 dL_law_857 rfl ?_
  refine gd_iconst (x9 := nI 1) dL_law_859 rfl ?_
  refine gd_iadd dL_law_860 ?_
  rw [nI_add]
  refine gd_iaload (k := 63) (i := 0) (n := v1.2.2.2.2.2) ⟨by decide, by decide⟩ rfl dL_law_861 rfl (nu_in (by omega) (by omega)) ?_
  rw [nI_clamp (n := j + 1) (by omega)]
  refine gd_callVJ (N := mX11_rule) (dy := dz) (my := 0) (sy := 0) (k := 11) (i := 0) (As := [zI (v1.1 63 0 (j + 1))]) (rest := []) lL_130 iX11_rule sX11_rule rfl dL_law_862 rfl rfl ⟨hz, by show 8 + (2 + 11) + 60 * dz ≤ 60 * d; omega⟩ ⟨Nat.zero_le _, Nat.zero_le _⟩ (Nat.le_of_ble_eq_true rfl) h ?_
  rintro y v2 h
  refine gd_lstore dL_law_865 (Nat.le_of_ble_eq_true rfl) rfl ?_
  refine gd_aload_n 4 dL_law_867 rfl rfl ?_
  refine gd_callVI (N := mX11_thrown) (dy := 2) (my := 0) (sy := 0) (k := 11) (i := 0) (As := []) (rest := []) lL_90 iX11_thrown sX11_thrown rfl dL_law_868 rfl rfl ⟨ht, by show 8 + (1 + 11) + 60 * 2 ≤ 60 * d; omega⟩ ⟨Nat.zero_le _, Nat.zero_le _⟩ (Nat.le_of_ble_eq_true rfl) h ?_
  rintro t v3 ⟨e3, e4, h⟩
  refine gd_iload 1 dL_law_871 rfl ?_
  refine gd_icmp_eq dL_law_873 (tgt := 878) (by decide) (fun _ => ?_) (fun q => absurd e3 q)
  refine gd_iload 1 dL_law_878 rfl ?_
  refine gd_if_ne dL_law_880 (tgt := 894) (by decide) (fun _ => gd_goto dL_law_894 (tgt := 1458) (by decide) (gd_locals [2, 3, 4, 5, 6] rfl h)) (fun q => ?_)
  refine gd_aload_n 5 dL_law_883 rfl rfl ?_
  refine gd_iconst (x9 := nI 0) dL_law_884 rfl ?_
  refine gd_laload (k := 64) (i := 0) (n := 1) ⟨by decide, by decide⟩ rfl dL_law_885 rfl (nu_in (by decide) (by decide)) ?_
  rw [nI_clamp (n := 0) (by decide)]
  refine gd_lload 0 dL_law_886 rfl ?_
  exact gd_lc_eq dL_law_888 dL_law_889 (tgt := 894) (by decide) (fun _ => gd_goto dL_law_894 (tgt := 1458) (by decide) (gd_locals [2, 3, 4, 5, 6] rfl h)) (fun q9 => absurd (e4 q) q9)
theorem eL_part {g : ab_E} {d bc bs j dy dz my sy : Nat} {v : gd_D} {Q : ab_O → gd_D → Prop} (hd : dy + 1 ≤ d) (hz : dz + 1 ≤ d) (ht : 2 + 1 ≤ d) (hj : j + 5 < v.2.2.2.2.2) (hl : v.2.2.2.2.2 ≤ 3072) (hb : my ≤ bc ∧ sy ≤ bs) (h : gd_CH hL_part g mL_part dy my sy [zR 10 0, zI (v.1 63 0 (j + 1)), zI (v.1 63 0 (j + 2)), zI (v.1 63 0 (j + 3)), zR 64 0] v (gd_rI (fun (k : Int32) v1 => v1.2.2.2.2.2 = v.2.2.2.2.2 ∧ gd_C g mX11_part dz 0 0 [zR 11 0, zI (v1.1 63 0 (j + 1)), zI (v1.1 63 0 (j + 2)), zI (v1.1 63 0 (j + 3))] v1 (gd_rI (fun (y : Int32) v2 => gd_C g mX11_thrown 2 0 0 [zR 11 0] v2 (gd_rI (fun (t : Int32) v3 => t = k ∧ (k = 0 → v3.2.1 64 0 0 = y.toInt64) ∧ gd_G g mL_law d (bc - my) (bs - sy) 1458 [(0, zR 63 0), (1, zR 10 0), (2, zR 11 0), (3, zR 64 0), (4, zI (nI j))] [] v3 Q) (fun E v9 => Q (Sum.inr E) v9))) (fun E v9 => Q (Sum.inr E) v9))) (fun E v9 => Q (Sum.inr E) v9))) : gd_G g mL_law d bc bs 897 [(0, zR 63 0), (1, zR 10 0), (2, zR 11 0), (3, zR 64 0), (4, zI (nI j))] [] v Q := by
  refine gd_aload_n 1 dL_law_897 rfl rfl ?_
  refine gd_aload_n 0 dL_law_898 rfl rfl ?_
  refine gd_iload 4 dL_law_899 rfl ?_
  refine gd_iconst (x9 := nI 1) dL_law_901 rfl ?_
  refine gd_iadd dL_law_902 ?_
  rw [nI_add]
  refine gd_iaload (k := 63) (i := 0) (n := v.2.2.2.2.2) ⟨by decide, by decide⟩ rfl dL_law_903 rfl (nu_in (by omega) (by omega)) ?_
  rw [nI_clamp (n := j + 1) (by omega)]
  refine gd_aload_n 0 dL_law_904 rfl rfl ?_
  refine gd_iload 4 dL_law_905 rfl ?_
  refine gd_iconst (x9 := nI 2) dL_law_907 rfl ?_
  refine gd_iadd dL_law_908 ?_
  rw [nI_add]
  refine gd_iaload (k := 63) (i := 0) (n := v.2.2.2.2.2) ⟨by decide, by decide⟩ rfl dL_law_909 rfl (nu_in (by omega) (by omega)) ?_
  rw [nI_clamp (n := j + 2) (by omega)]
  refine gd_aload_n 0 dL_law_910 rfl rfl ?_
  refine gd_iload 4 dL_law_911 rfl ?_
  refine gd_iconst (x9 := nI 3) dL_law_913 rfl ?_
  refine gd_iadd dL_law_914 ?_
  rw [nI_add]
  refine gd_iaload (k := 63) (i := 0) (n := v.2.2.2.2.2) ⟨by decide, by decide⟩ rfl dL_law_915 rfl (nu_in (by omega) (by omega)) ?_
  rw [nI_clamp (n := j + 3) (by omega)]
  refine gd_aload_n 3 dL_law_916 rfl rfl ?_
  refine gd_callSHI (N := mL_part) (dy := dy) (my := my) (sy := sy) (As := [zR 10 0, zI (v.1 63 0 (j + 1)), zI (v.1 63 0 (j + 2)), zI (v.1 63 0 (j + 3)), zR 64 0]) (rest := []) lL_131 tL_part dL_law_917 rfl rfl ⟨hd, by show 8 + (6 + 11) + 60 * dy ≤ 60 * d; omega⟩ hb (Nat.le_of_ble_eq_true rfl) h ?_
  rintro k v1 ⟨e1, h⟩
  have hj1 : j + 5 < v1.2.2.2.2.2 := by rw [e1]; exact hj
  have hl1 : v1.2.2.2.2.2 ≤ 3072 := by rw [e1]; exact hl
  refine gd_istore dL_law_920 (Nat.le_of_ble_eq_true rfl) rfl ?_
  refine gd_aload_n 3 dL_law_922 rfl rfl ?_
  refine gd_aload_n 1 dL_law_923 rfl rfl ?_
  refine gd_iload 5 dL_law_924 rfl ?_
  refine gd_iconst (x9 := nI 1) dL_law_926 rfl ?_
  refine gd_iadd dL_law_927 ?_
  rw [nI_add]
  refine gd_iaload (k := 63) (i := 0) (n := v1.2.2.2.2.2) ⟨by decide, by decide⟩ rfl dL_law_928 rfl (nu_in (by omega) (by omega)) ?_
  rw [nI_clamp (n := j + 1) (by omega)]
  refine gd_aload_n 1 dL_law_929 rfl rfl ?_
  refine gd_iload 5 dL_law_930 rfl ?_
  refine gd_iconst (x9 := nI 2) dL_law_932 rfl ?_
  refine gd_iadd dL_law_933 ?_
  rw [nI_add]
  refine gd_iaload (k := 63) (i := 0) (n := v1.2.2.2.2.2) ⟨by decide, by decide⟩ rfl dL_law_934 rfl (nu_in (by omega) (by omega)) ?_
  rw [nI_clamp (n := j + 2) (by omega)]
  refine gd_aload_n 1 dL_law_935 rfl rfl ?_
  refine gd_iload 5 dL_law_936 rfl ?_
  refine gd_iconst (x9 := nI 3) dL_law_938 rfl ?_
  refine gd_iadd dL_law_939 ?_
  rw [nI_add]
  refine gd_iaload (k := 63) (i := 0) (n := v1.2.2.2.2.2) ⟨by decide, by decide⟩ rfl dL_law_940 rfl (nu_in (by omega) (by omega)) ?_
  rw [nI_clamp (n := j + 3) (by omega)]
  refine gd_callVI (N := mX11_part) (dy := dz) (my := 0) (sy := 0) (k := 11) (i := 0) (As := [zI (v1.1 63 0 (j + 1)), zI (v1.1 63 0 (j + 2)), zI (v1.1 63 0 (j + 3))]) (rest := []) lL_134 iX11_part sX11_part rfl dL_law_941 rfl rfl ⟨hz, by show 8 + (5 + 11) + 60 * dz ≤ 60 * d; omega⟩ ⟨Nat.zero_le _, Nat.zero_le _⟩ (Nat.le_of_ble_eq_true rfl) h ?_
  rintro y v2 h
  refine gd_istore dL_law_944 (Nat.le_of_ble_eq_true rfl) rfl ?_
  refine gd_aload_n 4 dL_law_946 rfl rfl ?_
  refine gd_callVI (N := mX11_thrown) (dy := 2) (my := 0) (sy := 0) (k := 11) (i := 0) (As := []) (rest := []) lL_90 iX11_thrown sX11_thrown rfl dL_law_947 rfl rfl ⟨ht, by show 8 + (1 + 11) + 60 * 2 ≤ 60 * d; omega⟩ ⟨Nat.zero_le _, Nat.zero_le _⟩ (Nat.le_of_ble_eq_true rfl) h ?_
  rintro t v3 ⟨e3, e4, h⟩
  refine gd_iload 1 dL_law_950 rfl ?_
  refine gd_icmp_eq dL_law_952 (tgt := 957) (by decide) (fun _ => ?_) (fun q => absurd e3 q)
  refine gd_iload 1 dL_law_957 rfl ?_
  refine gd_if_ne dL_law_959 (tgt := 974) (by decide) (fun _ => gd_goto dL_law_974 (tgt := 1458) (by decide) (gd_locals [2, 3, 4, 5, 6] rfl h)) (fun q => ?_)
  refine gd_aload_n 5 dL_law_962 rfl rfl ?_
  refine gd_iconst (x9 := nI 0) dL_law_963 rfl ?_
  refine gd_laload (k := 64) (i := 0) (n := 1) ⟨by decide, by decide⟩ rfl dL_law_964 rfl (nu_in (by decide) (by decide)) ?_
  rw [nI_clamp (n := 0) (by decide)]
  refine gd_iload 0 dL_law_965 rfl ?_
  refine gd_i2l dL_law_967 ?_
  exact gd_lc_eq dL_law_968 dL_law_969 (tgt := 974) (by decide) (fun _ => gd_goto dL_law_974 (tgt := 1458) (by decide) (gd_locals [2, 3, 4, 5, 6] rfl h)) (fun q9 => absurd (e4 q) q9)
theorem eL_parts {g : ab_E} {d bc bs j dy dz my sy : Nat} {v : gd_D} {Q : ab_O → gd_D → Prop} (hd : dy + 1 ≤ d) (hz : dz + 1 ≤ d) (ht : 2 + 1 ≤ d) (hj : j + 5 < v.2.2.2.2.2) (hl : v.2.2.2.2.2 ≤ 3072) (hb : my ≤ bc ∧ sy ≤ bs) (h : gd_CH hL_parts g mL_parts dy my sy [zR 10 0, zI (v.1 63 0 (j + 1)), zR 64 0] v (gd_rI (fun (k : Int32) v1 => v1.2.2.2.2.2 = v.2.2.2.2.2 ∧ gd_C g mX11_parts dz 0 0 [zR 11 0, zI (v1.1 63 0 (j + 1))] v1 (gd_rI (fun (y : Int32) v2 => gd_C g mX11_thrown 2 0 0 [zR 11 0] v2 (gd_rI (fun (t : Int32) v3 => t = k ∧ (k = 0 → v3.2.1 64 0 0 = y.toInt64) ∧ gd_G g mL_law d (bc - my) (bs - sy) 1458 [(0, zR 63 0), (1, zR 10 0), (2, zR 11 0), (3, zR 64 0), (4, zI (nI j))] [] v3 Q) (fun E v9 => Q (Sum.inr E) v9))) (fun E v9 => Q (Sum.inr E) v9))) (fun E v9 => Q (Sum.inr E) v9))) : gd_G g mL_law d bc bs 977 [(0, zR 63 0), (1, zR 10 0), (2, zR 11 0), (3, zR 64 0), (4, zI (nI j))] [] v Q := by
  refine gd_aload_n 1 dL_law_977 rfl rfl ?_
  refine gd_aload_n 0 dL_law_978 rfl rfl ?_
  refine gd_iload 4 dL_law_979 rfl ?_
  refine gd_iconst (x9 := nI 1) dL_law_981 rfl ?_
  refine gd_iadd dL_law_982 ?_
  rw [nI_add]
  refine gd_iaload (k := 63) (i := 0) (n := v.2.2.2.2.2) ⟨by decide, by decide⟩ rfl dL_law_983 rfl (nu_in (by omega) (by omega)) ?_
  rw [nI_clamp (n := j + 1) (by omega)]
  refine gd_aload_n 3 dL_law_984 rfl rfl ?_
  refine gd_callSHI (N := mL_parts) (dy := dy) (my := my) (sy := sy) (As := [zR 10 0, zI (v.1 63 0 (j + 1)), zR 64 0]) (rest := []) lL_135 tL_parts dL_law_985 rfl rfl ⟨hd, by show 8 + (4 + 11) + 60 * dy ≤ 60 * d; omega⟩ hb (Nat.le_of_ble_eq_true rfl) h ?_
  rintro k v1 ⟨e1, h⟩
  have hj1 : j + 5 < v1.2.2.2.2.2 := by rw [e1]; exact hj
  have hl1 : v1.2.2.2.2.2 ≤ 3072 := by rw [e1]; exact hl
  refine gd_istore dL_law_988 (Nat.le_of_ble_eq_true rfl) rfl ?_
  refine gd_aload_n 3 dL_law_990 rfl rfl ?_
  refine gd_aload_n 1 dL_law_991 rfl rfl ?_
  refine gd_iload 5 dL_law_992 rfl ?_
  refine gd_iconst (x9 := nI 1) dL_law_994 rfl ?_
  refine gd_iadd dL_law_995 ?_
  rw [nI_add]
  refine gd_iaload (k := 63) (i := 0) (n := v1.2.2.2.2.2) ⟨by decide, by decide⟩ rfl dL_law_996 rfl (nu_in (by omega) (by omega)) ?_
  rw [nI_clamp (n := j + 1) (by omega)]
  refine gd_callVI (N := mX11_parts) (dy := dz) (my := 0) (sy := 0) (k := 11) (i := 0) (As := [zI (v1.1 63 0 (j + 1))]) (rest := []) lL_137 iX11_parts sX11_parts rfl dL_law_997 rfl rfl ⟨hz, by show 8 + (2 + 11) + 60 * dz ≤ 60 * d; omega⟩ ⟨Nat.zero_le _, Nat.zero_le _⟩ (Nat.le_of_ble_eq_true rfl) h ?_
  rintro y v2 h
  refine gd_istore dL_law_1000 (Nat.le_of_ble_eq_true rfl) rfl ?_
  refine gd_aload_n 4 dL_law_1002 rfl rfl ?_
  refine gd_callVI (N := mX11_thrown) (dy := 2) (my := 0) (sy := 0) (k := 11) (i := 0) (As := []) (rest := []) lL_90 iX11_thrown sX11_thrown rfl dL_law_1003 rfl rfl ⟨ht, by show 8 + (1 + 11) + 60 * 2 ≤ 60 * d; omega⟩ ⟨Nat.zero_le _, Nat.zero_le _⟩ (Nat.le_of_ble_eq_true rfl) h ?_
  rintro t v3 ⟨e3, e4, h⟩
  refine gd_iload 1 dL_law_1006 rfl ?_
  refine gd_icmp_eq dL_law_1008 (tgt := 1013) (by decide) (fun _ => ?_) (fun q => absurd e3 q)
  refine gd_iload 1 dL_law_1013 rfl ?_
  refine gd_if_ne dL_law_1015 (tgt := 1030) (by decide) (fun _ => gd_goto dL_law_1030 (tgt := 1458) (by decide) (gd_locals [2, 3, 4, 5, 6] rfl h)) (fun q => ?_)
  refine gd_aload_n 5 dL_law_1018 rfl rfl ?_
  refine gd_iconst (x9 := nI 0) dL_law_1019 rfl ?_
  refine gd_laload (k := 64) (i := 0) (n := 1) ⟨by decide, by decide⟩ rfl dL_law_1020 rfl (nu_in (by decide) (by decide)) ?_
  rw [nI_clamp (n := 0) (by decide)]
  refine gd_iload 0 dL_law_1021 rfl ?_
  refine gd_i2l dL_law_1023 ?_
  exact gd_lc_eq dL_law_1024 dL_law_1025 (tgt := 1030) (by decide) (fun _ => gd_goto dL_law_1030 (tgt := 1458) (by decide) (gd_locals [2, 3, 4, 5, 6] rfl h)) (fun q9 => absurd (e4 q) q9)
theorem eL_chain {g : ab_E} {d bc bs j dy dz my sy : Nat} {v : gd_D} {Q : ab_O → gd_D → Prop} (hd : dy + 1 ≤ d) (hz : dz + 1 ≤ d) (ht : 2 + 1 ≤ d) (hj : j + 5 < v.2.2.2.2.2) (hl : v.2.2.2.2.2 ≤ 3072) (hb : my ≤ bc ∧ sy ≤ bs) (h : gd_CH hL_chain g mL_chain dy my sy [zR 10 0, zI (v.1 63 0 (j + 1)), zI (v.1 63 0 (j + 2)), zR 64 0] v (gd_rI (fun (k : Int32) v1 => v1.2.2.2.2.2 = v.2.2.2.2.2 ∧ gd_C g mX11_chain dz 0 0 [zR 11 0, zI (v1.1 63 0 (j + 1)), zI (v1.1 63 0 (j + 2))] v1 (gd_rI (fun (y : Int32) v2 => gd_C g mX11_thrown 2 0 0 [zR 11 0] v2 (gd_rI (fun (t : Int32) v3 => t = k ∧ (k = 0 → v3.2.1 64 0 0 = y.toInt64) ∧ gd_G g mL_law d (bc - my) (bs - sy) 1458 [(0, zR 63 0), (1, zR 10 0), (2, zR 11 0), (3, zR 64 0), (4, zI (nI j))] [] v3 Q) (fun E v9 => Q (Sum.inr E) v9))) (fun E v9 => Q (Sum.inr E) v9))) (fun E v9 => Q (Sum.inr E) v9))) : gd_G g mL_law d bc bs 1033 [(0, zR 63 0), (1, zR 10 0), (2, zR 11 0), (3, zR 64 0), (4, zI (nI j))] [] v Q := by
  refine gd_aload_n 1 dL_law_1033 rfl rfl ?_
  refine gd_aload_n 0 dL_law_1034 rfl rfl ?_
  refine gd_iload 4 dL_law_1035 rfl ?_
  refine gd_iconst (x9 := nI 1) dL_law_1037 rfl ?_
  refine gd_iadd dL_law_1038 ?_
  rw [nI_add]
  refine gd_iaload (k := 63) (i := 0) (n := v.2.2.2.2.2) ⟨by decide, by decide⟩ rfl dL_law_1039 rfl (nu_in (by omega) (by omega)) ?_
  rw [nI_clamp (n := j + 1) (by omega)]
  refine gd_aload_n 0 dL_law_1040 rfl rfl ?_
  refine gd_iload 4 dL_law_1041 rfl ?_
  refine gd_iconst (x9 := nI 2) dL_law_1043 rfl ?_
  refine gd_iadd dL_law_1044 ?_
  rw [nI_add]
  refine gd_iaload (k := 63) (i := 0) (n := v.2.2.2.2.2) ⟨by decide, by decide⟩ rfl dL_law_1045 rfl (nu_in (by omega) (by omega)) ?_
  rw [nI_clamp (n := j + 2) (by omega)]
  refine gd_aload_n 3 dL_law_1046 rfl rfl ?_
  refine gd_callSHI (N := mL_chain) (dy := dy) (my := my) (sy := sy) (As := [zR 10 0, zI (v.1 63 0 (j + 1)), zI (v.1 63 0 (j + 2)), zR 64 0]) (rest := []) lL_138 tL_chain dL_law_1047 rfl rfl ⟨hd, by show 8 + (5 + 11) + 60 * dy ≤ 60 * d; omega⟩ hb (Nat.le_of_ble_eq_true rfl) h ?_
  rintro k v1 ⟨e1, h⟩
  have hj1 : j + 5 < v1.2.2.2.2.2 := by rw [e1]; exact hj
  have hl1 : v1.2.2.2.2.2 ≤ 3072 := by rw [e1]; exact hl
  refine gd_istore dL_law_1050 (Nat.le_of_ble_eq_true rfl) rfl ?_
  refine gd_aload_n 3 dL_law_1052 rfl rfl ?_
  refine gd_aload_n 1 dL_law_1053 rfl rfl ?_
  refine gd_iload 5 dL_law_1054 rfl ?_
  refine gd_iconst (x9 := nI 1) dL_law_1056 rfl ?_
  refine gd_iadd dL_law_1057 ?_
  rw [nI_add]
  refine gd_iaload (k := 63) (i := 0) (n := v1.2.2.2.2.2) ⟨by decide, by decide⟩ rfl dL_law_1058 rfl (nu_in (by omega) (by omega)) ?_
  rw [nI_clamp (n := j + 1) (by omega)]
  refine gd_aload_n 1 dL_law_1059 rfl rfl ?_
  refine gd_iload 5 dL_law_1060 rfl ?_
  refine gd_iconst (x9 := nI 2) dL_law_1062 rfl ?_
  refine gd_iadd dL_law_1063 ?_
  rw [nI_add]
  refine gd_iaload (k := 63) (i := 0) (n := v1.2.2.2.2.2) ⟨by decide, by decide⟩ rfl dL_law_1064 rfl (nu_in (by omega) (by omega)) ?_
  rw [nI_clamp (n := j + 2) (by omega)]
  refine gd_callVI (N := mX11_chain) (dy := dz) (my := 0) (sy := 0) (k := 11) (i := 0) (As := [zI (v1.1 63 0 (j + 1)), zI (v1.1 63 0 (j + 2))]) (rest := []) lL_140 iX11_chain sX11_chain rfl dL_law_1065 rfl rfl ⟨hz, by show 8 + (7 + 11) + 60 * dz ≤ 60 * d; omega⟩ ⟨Nat.zero_le _, Nat.zero_le _⟩ (Nat.le_of_ble_eq_true rfl) h ?_
  rintro y v2 h
  refine gd_istore dL_law_1068 (Nat.le_of_ble_eq_true rfl) rfl ?_
  refine gd_aload_n 4 dL_law_1070 rfl rfl ?_
  refine gd_callVI (N := mX11_thrown) (dy := 2) (my := 0) (sy := 0) (k := 11) (i := 0) (As := []) (rest := []) lL_90 iX11_thrown sX11_thrown rfl dL_law_1071 rfl rfl ⟨ht, by show 8 + (1 + 11) + 60 * 2 ≤ 60 * d; omega⟩ ⟨Nat.zero_le _, Nat.zero_le _⟩ (Nat.le_of_ble_eq_true rfl) h ?_
  rintro t v3 ⟨e3, e4, h⟩
  refine gd_iload 1 dL_law_1074 rfl ?_
  refine gd_icmp_eq dL_law_1076 (tgt := 1081) (by decide) (fun _ => ?_) (fun q => absurd e3 q)
  refine gd_iload 1 dL_law_1081 rfl ?_
  refine gd_if_ne dL_law_1083 (tgt := 1098) (by decide) (fun _ => gd_goto dL_law_1098 (tgt := 1458) (by decide) (gd_locals [2, 3, 4, 5, 6] rfl h)) (fun q => ?_)
  refine gd_aload_n 5 dL_law_1086 rfl rfl ?_
  refine gd_iconst (x9 := nI 0) dL_law_1087 rfl ?_
  refine gd_laload (k := 64) (i := 0) (n := 1) ⟨by decide, by decide⟩ rfl dL_law_1088 rfl (nu_in (by decide) (by decide)) ?_
  rw [nI_clamp (n := 0) (by decide)]
  refine gd_iload 0 dL_law_1089 rfl ?_
  refine gd_i2l dL_law_1091 ?_
  exact gd_lc_eq dL_law_1092 dL_law_1093 (tgt := 1098) (by decide) (fun _ => gd_goto dL_law_1098 (tgt := 1458) (by decide) (gd_locals [2, 3, 4, 5, 6] rfl h)) (fun q9 => absurd (e4 q) q9)
theorem eL_ring {g : ab_E} {d bc bs j dy dz my sy : Nat} {v : gd_D} {Q : ab_O → gd_D → Prop} (hd : dy + 1 ≤ d) (hz : dz + 1 ≤ d) (ht : 2 + 1 ≤ d) (hj : j + 5 < v.2.2.2.2.2) (hl : v.2.2.2.2.2 ≤ 3072) (hb : my ≤ bc ∧ sy ≤ bs) (h : gd_CH hL_ring g mL_ring dy my sy [zR 10 0, zI (v.1 63 0 (j + 1)), zR 64 0] v (gd_rI (fun (k : Int32) v1 => v1.2.2.2.2.2 = v.2.2.2.2.2 ∧ gd_C g mX11_ring dz 0 0 [zR 11 0, zI (v1.1 63 0 (j + 1))] v1 (gd_rI (fun (y : Int32) v2 => gd_C g mX11_thrown 2 0 0 [zR 11 0] v2 (gd_rI (fun (t : Int32) v3 => t = k ∧ (k = 0 → v3.2.1 64 0 0 = y.toInt64) ∧ gd_G g mL_law d (bc - my) (bs - sy) 1458 [(0, zR 63 0), (1, zR 10 0), (2, zR 11 0), (3, zR 64 0), (4, zI (nI j))] [] v3 Q) (fun E v9 => Q (Sum.inr E) v9))) (fun E v9 => Q (Sum.inr E) v9))) (fun E v9 => Q (Sum.inr E) v9))) : gd_G g mL_law d bc bs 1101 [(0, zR 63 0), (1, zR 10 0), (2, zR 11 0), (3, zR 64 0), (4, zI (nI j))] [] v Q := by
  refine gd_aload_n 1 dL_law_1101 rfl rfl ?_
  refine gd_aload_n 0 dL_law_1102 rfl rfl ?_
  refine gd_iload 4 dL_law_1103 rfl ?_
  refine gd_iconst (x9 := nI 1) dL_law_1105 rfl ?_
  refine gd_iadd dL_law_1106 ?_
  rw [nI_add]
  refine gd_iaload (k := 63) (i := 0) (n := v.2.2.2.2.2) ⟨by decide, by decide⟩ rfl dL_law_1107 rfl (nu_in (by omega) (by omega)) ?_
  rw [nI_clamp (n := j + 1) (by omega)]
  refine gd_aload_n 3 dL_law_1108 rfl rfl ?_
  refine gd_callSHI (N := mL_ring) (dy := dy) (my := my) (sy := sy) (As := [zR 10 0, zI (v.1 63 0 (j + 1)), zR 64 0]) (rest := []) lL_141 tL_ring dL_law_1109 rfl rfl ⟨hd, by show 8 + (4 + 11) + 60 * dy ≤ 60 * d; omega⟩ hb (Nat.le_of_ble_eq_true rfl) h ?_
  rintro k v1 ⟨e1, h⟩
  have hj1 : j + 5 < v1.2.2.2.2.2 := by rw [e1]; exact hj
  have hl1 : v1.2.2.2.2.2 ≤ 3072 := by rw [e1]; exact hl
  refine gd_istore dL_law_1112 (Nat.le_of_ble_eq_true rfl) rfl ?_
  refine gd_aload_n 3 dL_law_1114 rfl rfl ?_
  refine gd_aload_n 1 dL_law_1115 rfl rfl ?_
  refine gd_iload 5 dL_law_1116 rfl ?_
  refine gd_iconst (x9 := nI 1) dL_law_1118 rfl ?_
  refine gd_iadd dL_law_1119 ?_
  rw [nI_add]
  refine gd_iaload (k := 63) (i := 0) (n := v1.2.2.2.2.2) ⟨by decide, by decide⟩ rfl dL_law_1120 rfl (nu_in (by omega) (by omega)) ?_
  rw [nI_clamp (n := j + 1) (by omega)]
  refine gd_callVI (N := mX11_ring) (dy := dz) (my := 0) (sy := 0) (k := 11) (i := 0) (As := [zI (v1.1 63 0 (j + 1))]) (rest := []) lL_143 iX11_ring sX11_ring rfl dL_law_1121 rfl rfl ⟨hz, by show 8 + (2 + 11) + 60 * dz ≤ 60 * d; omega⟩ ⟨Nat.zero_le _, Nat.zero_le _⟩ (Nat.le_of_ble_eq_true rfl) h ?_
  rintro y v2 h
  refine gd_istore dL_law_1124 (Nat.le_of_ble_eq_true rfl) rfl ?_
  refine gd_aload_n 4 dL_law_1126 rfl rfl ?_
  refine gd_callVI (N := mX11_thrown) (dy := 2) (my := 0) (sy := 0) (k := 11) (i := 0) (As := []) (rest := []) lL_90 iX11_thrown sX11_thrown rfl dL_law_1127 rfl rfl ⟨ht, by show 8 + (1 + 11) + 60 * 2 ≤ 60 * d; omega⟩ ⟨Nat.zero_le _, Nat.zero_le _⟩ (Nat.le_of_ble_eq_true rfl) h ?_
  rintro t v3 ⟨e3, e4, h⟩
  refine gd_iload 1 dL_law_1130 rfl ?_
  refine gd_icmp_eq dL_law_1132 (tgt := 1137) (by decide) (fun _ => ?_) (fun q => absurd e3 q)
  refine gd_iload 1 dL_law_1137 rfl ?_
  refine gd_if_ne dL_law_1139 (tgt := 1154) (by decide) (fun _ => gd_goto dL_law_1154 (tgt := 1458) (by decide) (gd_locals [2, 3, 4, 5, 6] rfl h)) (fun q => ?_)
  refine gd_aload_n 5 dL_law_1142 rfl rfl ?_
  refine gd_iconst (x9 := nI 0) dL_law_1143 rfl ?_
  refine gd_laload (k := 64) (i := 0) (n := 1) ⟨by decide, by decide⟩ rfl dL_law_1144 rfl (nu_in (by decide) (by decide)) ?_
  rw [nI_clamp (n := 0) (by decide)]
  refine gd_iload 0 dL_law_1145 rfl ?_
  refine gd_i2l dL_law_1147 ?_
  exact gd_lc_eq dL_law_1148 dL_law_1149 (tgt := 1154) (by decide) (fun _ => gd_goto dL_law_1154 (tgt := 1458) (by decide) (gd_locals [2, 3, 4, 5, 6] rfl h)) (fun q9 => absurd (e4 q) q9)
theorem eL_most {g : ab_E} {d bc bs j dy dz my sy : Nat} {v : gd_D} {Q : ab_O → gd_D → Prop} (hd : dy + 1 ≤ d) (hz : dz + 1 ≤ d) (ht : 2 + 1 ≤ d) (hj : j + 5 < v.2.2.2.2.2) (hl : v.2.2.2.2.2 ≤ 3072) (hb : my ≤ bc ∧ sy ≤ bs) (h : gd_CH hL_most g mL_most dy my sy [zR 10 0, zI (v.1 63 0 (j + 1)), zR 64 0] v (gd_rI (fun (k : Int32) v1 => v1.2.2.2.2.2 = v.2.2.2.2.2 ∧ gd_C g mX11_most dz 0 0 [zR 11 0, zI (v1.1 63 0 (j + 1))] v1 (gd_rJ (fun (y : Int64) v2 => gd_C g mX11_thrown 2 0 0 [zR 11 0] v2 (gd_rI (fun (t : Int32) v3 => t = k ∧ (k = 0 → v3.2.1 64 0 0 = y) ∧ gd_G g mL_law d (bc - my) (bs - sy) 1458 [(0, zR 63 0), (1, zR 10 0), (2, zR 11 0), (3, zR 64 0), (4, zI (nI j))] [] v3 Q) (fun E v9 => Q (Sum.inr E) v9))) (fun E v9 => Q (Sum.inr E) v9))) (fun E v9 => Q (Sum.inr E) v9))) : gd_G g mL_law d bc bs 1157 [(0, zR 63 0), (1, zR 10 0), (2, zR 11 0), (3, zR 64 0), (4, zI (nI j))] [] v Q := by
  refine gd_aload_n 1 dL_law_1157 rfl rfl ?_
  refine gd_aload_n 0 dL_law_1158 rfl rfl ?_
  refine gd_iload 4 dL_law_1159 rfl ?_
  refine gd_iconst (x9 := nI 1) dL_law_1161 rfl ?_
  refine gd_iadd dL_law_1162 ?_
  rw [nI_add]
  refine gd_iaload (k := 63) (i := 0) (n := v.2.2.2.2.2) ⟨by decide, by decide⟩ rfl dL_law_1163 rfl (nu_in (by omega) (by omega)) ?_
  rw [nI_clamp (n := j + 1) (by omega)]
  refine gd_aload_n 3 dL_law_1164 rfl rfl ?_
  refine gd_callSHI (N := mL_most) (dy := dy) (my := my) (sy := sy) (As := [zR 10 0, zI (v.1 63 0 (j + 1)), zR 64 0]) (rest := []) lL_144 tL_most dL_law_1165 rfl rfl ⟨hd, by show 8 + (4 + 11) + 60 * dy ≤ 60 * d; omega⟩ hb (Nat.le_of_ble_eq_true rfl) h ?_
  rintro k v1 ⟨e1, h⟩
  have hj1 : j + 5 < v1.2.2.2.2.2 := by rw [e1]; exact hj
  have hl1 : v1.2.2.2.2.2 ≤ 3072 := by rw [e1]; exact hl
  refine gd_istore dL_law_1168 (Nat.le_of_ble_eq_true rfl) rfl ?_
  refine gd_aload_n 3 dL_law_1170 rfl rfl ?_
  refine gd_aload_n 1 dL_law_1171 rfl rfl ?_
  refine gd_iload 5 dL_law_1172 rfl ?_
  refine gd_iconst (x9 := nI 1) dL_law_1174 rfl ?_
  refine gd_iadd dL_law_1175 ?_
  rw [nI_add]
  refine gd_iaload (k := 63) (i := 0) (n := v1.2.2.2.2.2) ⟨by decide, by decide⟩ rfl dL_law_1176 rfl (nu_in (by omega) (by omega)) ?_
  rw [nI_clamp (n := j + 1) (by omega)]
  refine gd_callVJ (N := mX11_most) (dy := dz) (my := 0) (sy := 0) (k := 11) (i := 0) (As := [zI (v1.1 63 0 (j + 1))]) (rest := []) lL_146 iX11_most sX11_most rfl dL_law_1177 rfl rfl ⟨hz, by show 8 + (5 + 11) + 60 * dz ≤ 60 * d; omega⟩ ⟨Nat.zero_le _, Nat.zero_le _⟩ (Nat.le_of_ble_eq_true rfl) h ?_
  rintro y v2 h
  refine gd_lstore dL_law_1180 (Nat.le_of_ble_eq_true rfl) rfl ?_
  refine gd_aload_n 4 dL_law_1182 rfl rfl ?_
  refine gd_callVI (N := mX11_thrown) (dy := 2) (my := 0) (sy := 0) (k := 11) (i := 0) (As := []) (rest := []) lL_90 iX11_thrown sX11_thrown rfl dL_law_1183 rfl rfl ⟨ht, by show 8 + (1 + 11) + 60 * 2 ≤ 60 * d; omega⟩ ⟨Nat.zero_le _, Nat.zero_le _⟩ (Nat.le_of_ble_eq_true rfl) h ?_
  rintro t v3 ⟨e3, e4, h⟩
  refine gd_iload 1 dL_law_1186 rfl ?_
  refine gd_icmp_eq dL_law_1188 (tgt := 1193) (by decide) (fun _ => ?_) (fun q => absurd e3 q)
  refine gd_iload 1 dL_law_1193 rfl ?_
  refine gd_if_ne dL_law_1195 (tgt := 1209) (by decide) (fun _ => gd_goto dL_law_1209 (tgt := 1458) (by decide) (gd_locals [2, 3, 4, 5, 6] rfl h)) (fun q => ?_)
  refine gd_aload_n 5 dL_law_1198 rfl rfl ?_
  refine gd_iconst (x9 := nI 0) dL_law_1199 rfl ?_
  refine gd_laload (k := 64) (i := 0) (n := 1) ⟨by decide, by decide⟩ rfl dL_law_1200 rfl (nu_in (by decide) (by decide)) ?_
  rw [nI_clamp (n := 0) (by decide)]
  refine gd_lload 0 dL_law_1201 rfl ?_
  exact gd_lc_eq dL_law_1203 dL_law_1204 (tgt := 1209) (by decide) (fun _ => gd_goto dL_law_1209 (tgt := 1458) (by decide) (gd_locals [2, 3, 4, 5, 6] rfl h)) (fun q9 => absurd (e4 q) q9)
theorem eL_foretold {g : ab_E} {d bc bs j dy dz my sy : Nat} {v : gd_D} {Q : ab_O → gd_D → Prop} (hd : dy + 1 ≤ d) (hz : dz + 1 ≤ d) (ht : 2 + 1 ≤ d) (hj : j + 5 < v.2.2.2.2.2) (hl : v.2.2.2.2.2 ≤ 3072) (hb : my ≤ bc ∧ sy ≤ bs) (h : gd_CH hL_foretold g mL_foretold dy my sy [zR 10 0, zI (v.1 63 0 (j + 1)), zR 64 0] v (gd_rI (fun (k : Int32) v1 => v1.2.2.2.2.2 = v.2.2.2.2.2 ∧ gd_C g mX11_foretold dz 0 0 [zR 11 0, zI (v1.1 63 0 (j + 1))] v1 (gd_rI (fun (y : Int32) v2 => gd_C g mX11_thrown 2 0 0 [zR 11 0] v2 (gd_rI (fun (t : Int32) v3 => t = k ∧ (k = 0 → v3.2.1 64 0 0 = y.toInt64) ∧ gd_G g mL_law d (bc - my) (bs - sy) 1458 [(0, zR 63 0), (1, zR 10 0), (2, zR 11 0), (3, zR 64 0), (4, zI (nI j))] [] v3 Q) (fun E v9 => Q (Sum.inr E) v9))) (fun E v9 => Q (Sum.inr E) v9))) (fun E v9 => Q (Sum.inr E) v9))) : gd_G g mL_law d bc bs 1212 [(0, zR 63 0), (1, zR 10 0), (2, zR 11 0), (3, zR 64 0), (4, zI (nI j))] [] v Q := by
  refine gd_aload_n 1 dL_law_1212 rfl rfl ?_
  refine gd_aload_n 0 dL_law_1213 rfl rfl ?_
  refine gd_iload 4 dL_law_1214 rfl ?_
  refine gd_iconst (x9 := nI 1) dL_law_1216 rfl ?_
  refine gd_iadd dL_law_1217 ?_
  rw [nI_add]
  refine gd_iaload (k := 63) (i := 0) (n := v.2.2.2.2.2) ⟨by decide, by decide⟩ rfl dL_law_1218 rfl (nu_in (by omega) (by omega)) ?_
  rw [nI_clamp (n := j + 1) (by omega)]
  refine gd_aload_n 3 dL_law_1219 rfl rfl ?_
  refine gd_callSHI (N := mL_foretold) (dy := dy) (my := my) (sy := sy) (As := [zR 10 0, zI (v.1 63 0 (j + 1)), zR 64 0]) (rest := []) lL_147 tL_foretold dL_law_1220 rfl rfl ⟨hd, by show 8 + (4 + 11) + 60 * dy ≤ 60 * d; omega⟩ hb (Nat.le_of_ble_eq_true rfl) h ?_
  rintro k v1 ⟨e1, h⟩
  have hj1 : j + 5 < v1.2.2.2.2.2 := by rw [e1]; exact hj
  have hl1 : v1.2.2.2.2.2 ≤ 3072 := by rw [e1]; exact hl
  refine gd_istore dL_law_1223 (Nat.le_of_ble_eq_true rfl) rfl ?_
  refine gd_aload_n 3 dL_law_1225 rfl rfl ?_
  refine gd_aload_n 1 dL_law_1226 rfl rfl ?_
  refine gd_iload 5 dL_law_1227 rfl ?_
  refine gd_iconst (x9 := nI 1) dL_law_1229 rfl ?_
  refine gd_iadd dL_law_1230 ?_
  rw [nI_add]
  refine gd_iaload (k := 63) (i := 0) (n := v1.2.2.2.2.2) ⟨by decide, by decide⟩ rfl dL_law_1231 rfl (nu_in (by omega) (by omega)) ?_
  rw [nI_clamp (n := j + 1) (by omega)]
  refine gd_callVI (N := mX11_foretold) (dy := dz) (my := 0) (sy := 0) (k := 11) (i := 0) (As := [zI (v1.1 63 0 (j + 1))]) (rest := []) lL_149 iX11_foretold sX11_foretold rfl dL_law_1232 rfl rfl ⟨hz, by show 8 + (3 + 11) + 60 * dz ≤ 60 * d; omega⟩ ⟨Nat.zero_le _, Nat.zero_le _⟩ (Nat.le_of_ble_eq_true rfl) h ?_
  rintro y v2 h
  refine gd_istore dL_law_1235 (Nat.le_of_ble_eq_true rfl) rfl ?_
  refine gd_aload_n 4 dL_law_1237 rfl rfl ?_
  refine gd_callVI (N := mX11_thrown) (dy := 2) (my := 0) (sy := 0) (k := 11) (i := 0) (As := []) (rest := []) lL_90 iX11_thrown sX11_thrown rfl dL_law_1238 rfl rfl ⟨ht, by show 8 + (1 + 11) + 60 * 2 ≤ 60 * d; omega⟩ ⟨Nat.zero_le _, Nat.zero_le _⟩ (Nat.le_of_ble_eq_true rfl) h ?_
  rintro t v3 ⟨e3, e4, h⟩
  refine gd_iload 1 dL_law_1241 rfl ?_
  refine gd_icmp_eq dL_law_1243 (tgt := 1248) (by decide) (fun _ => ?_) (fun q => absurd e3 q)
  refine gd_iload 1 dL_law_1248 rfl ?_
  refine gd_if_ne dL_law_1250 (tgt := 1265) (by decide) (fun _ => gd_goto dL_law_1265 (tgt := 1458) (by decide) (gd_locals [2, 3, 4, 5, 6] rfl h)) (fun q => ?_)
  refine gd_aload_n 5 dL_law_1253 rfl rfl ?_
  refine gd_iconst (x9 := nI 0) dL_law_1254 rfl ?_
  refine gd_laload (k := 64) (i := 0) (n := 1) ⟨by decide, by decide⟩ rfl dL_law_1255 rfl (nu_in (by decide) (by decide)) ?_
  rw [nI_clamp (n := 0) (by decide)]
  refine gd_iload 0 dL_law_1256 rfl ?_
  refine gd_i2l dL_law_1258 ?_
  exact gd_lc_eq dL_law_1259 dL_law_1260 (tgt := 1265) (by decide) (fun _ => gd_goto dL_law_1265 (tgt := 1458) (by decide) (gd_locals [2, 3, 4, 5, 6] rfl h)) (fun q9 => absurd (e4 q) q9)
theorem eL_without {g : ab_E} {d bc bs j dy dz my sy : Nat} {v : gd_D} {Q : ab_O → gd_D → Prop} (hd : dy + 1 ≤ d) (hz : dz + 1 ≤ d) (ht : 2 + 1 ≤ d) (hj : j + 5 < v.2.2.2.2.2) (hl : v.2.2.2.2.2 ≤ 3072) (hb : my ≤ bc ∧ sy ≤ bs) (h : gd_CH hL_without g mL_without dy my sy [zR 10 0, zI (v.1 63 0 (j + 1)), zR 64 0] v (gd_rI (fun (k : Int32) v1 => v1.2.2.2.2.2 = v.2.2.2.2.2 ∧ gd_C g mX11_without dz 0 0 [zR 11 0, zI (v1.1 63 0 (j + 1))] v1 (gd_rJ (fun (y : Int64) v2 => gd_C g mX11_thrown 2 0 0 [zR 11 0] v2 (gd_rI (fun (t : Int32) v3 => t = k ∧ (k = 0 → v3.2.1 64 0 0 = y) ∧ gd_G g mL_law d (bc - my) (bs - sy) 1458 [(0, zR 63 0), (1, zR 10 0), (2, zR 11 0), (3, zR 64 0), (4, zI (nI j))] [] v3 Q) (fun E v9 => Q (Sum.inr E) v9))) (fun E v9 => Q (Sum.inr E) v9))) (fun E v9 => Q (Sum.inr E) v9))) : gd_G g mL_law d bc bs 1268 [(0, zR 63 0), (1, zR 10 0), (2, zR 11 0), (3, zR 64 0), (4, zI (nI j))] [] v Q := by
  refine gd_aload_n 1 dL_law_1268 rfl rfl ?_
  refine gd_aload_n 0 dL_law_1269 rfl rfl ?_
  refine gd_iload 4 dL_law_1270 rfl ?_
  refine gd_iconst (x9 := nI 1) dL_law_1272 rfl ?_
  refine gd_iadd dL_law_1273 ?_
  rw [nI_add]
  refine gd_iaload (k := 63) (i := 0) (n := v.2.2.2.2.2) ⟨by decide, by decide⟩ rfl dL_law_1274 rfl (nu_in (by omega) (by omega)) ?_
  rw [nI_clamp (n := j + 1) (by omega)]
  refine gd_aload_n 3 dL_law_1275 rfl rfl ?_
  refine gd_callSHI (N := mL_without) (dy := dy) (my := my) (sy := sy) (As := [zR 10 0, zI (v.1 63 0 (j + 1)), zR 64 0]) (rest := []) lL_150 tL_without dL_law_1276 rfl rfl ⟨hd, by show 8 + (4 + 11) + 60 * dy ≤ 60 * d; omega⟩ hb (Nat.le_of_ble_eq_true rfl) h ?_
  rintro k v1 ⟨e1, h⟩
  have hj1 : j + 5 < v1.2.2.2.2.2 := by rw [e1]; exact hj
  have hl1 : v1.2.2.2.2.2 ≤ 3072 := by rw [e1]; exact hl
  refine gd_istore dL_law_1279 (Nat.le_of_ble_eq_true rfl) rfl ?_
  refine gd_aload_n 3 dL_law_1281 rfl rfl ?_
  refine gd_aload_n 1 dL_law_1282 rfl rfl ?_
  refine gd_iload 5 dL_law_1283 rfl ?_
  refine gd_iconst (x9 := nI 1) dL_law_1285 rfl ?_
  refine gd_iadd dL_law_1286 ?_
  rw [nI_add]
  refine gd_iaload (k := 63) (i := 0) (n := v1.2.2.2.2.2) ⟨by decide, by decide⟩ rfl dL_law_1287 rfl (nu_in (by omega) (by omega)) ?_
  rw [nI_clamp (n := j + 1) (by omega)]
  refine gd_callVJ (N := mX11_without) (dy := dz) (my := 0) (sy := 0) (k := 11) (i := 0) (As := [zI (v1.1 63 0 (j + 1))]) (rest := []) lL_152 iX11_without sX11_without rfl dL_law_1288 rfl rfl ⟨hz, by show 8 + (2 + 11) + 60 * dz ≤ 60 * d; omega⟩ ⟨Nat.zero_le _, Nat.zero_le _⟩ (Nat.le_of_ble_eq_true rfl) h ?_
  rintro y v2 h
  refine gd_lstore dL_law_1291 (Nat.le_of_ble_eq_true rfl) rfl ?_
  refine gd_aload_n 4 dL_law_1293 rfl rfl ?_
  refine gd_callVI (N := mX11_thrown) (dy := 2) (my := 0) (sy := 0) (k := 11) (i := 0) (As := []) (rest := []) lL_90 iX11_thrown sX11_thrown rfl dL_law_1294 rfl rfl ⟨ht, by show 8 + (1 + 11) + 60 * 2 ≤ 60 * d; omega⟩ ⟨Nat.zero_le _, Nat.zero_le _⟩ (Nat.le_of_ble_eq_true rfl) h ?_
  rintro t v3 ⟨e3, e4, h⟩
  refine gd_iload 1 dL_law_1297 rfl ?_
  refine gd_icmp_eq dL_law_1299 (tgt := 1304) (by decide) (fun _ => ?_) (fun q => absurd e3 q)
  refine gd_iload 1 dL_law_1304 rfl ?_
  refine gd_if_ne dL_law_1306 (tgt := 1320) (by decide) (fun _ => gd_goto dL_law_1320 (tgt := 1458) (by decide) (gd_locals [2, 3, 4, 5, 6] rfl h)) (fun q => ?_)
  refine gd_aload_n 5 dL_law_1309 rfl rfl ?_
  refine gd_iconst (x9 := nI 0) dL_law_1310 rfl ?_
  refine gd_laload (k := 64) (i := 0) (n := 1) ⟨by decide, by decide⟩ rfl dL_law_1311 rfl (nu_in (by decide) (by decide)) ?_
  rw [nI_clamp (n := 0) (by decide)]
  refine gd_lload 0 dL_law_1312 rfl ?_
  exact gd_lc_eq dL_law_1314 dL_law_1315 (tgt := 1320) (by decide) (fun _ => gd_goto dL_law_1320 (tgt := 1458) (by decide) (gd_locals [2, 3, 4, 5, 6] rfl h)) (fun q9 => absurd (e4 q) q9)
theorem eL_between {g : ab_E} {d bc bs j dy dz my sy : Nat} {v : gd_D} {Q : ab_O → gd_D → Prop} (hd : dy + 1 ≤ d) (hz : dz + 1 ≤ d) (ht : 2 + 1 ≤ d) (hj : j + 5 < v.2.2.2.2.2) (hl : v.2.2.2.2.2 ≤ 3072) (hb : my ≤ bc ∧ sy ≤ bs) (h : gd_CH hL_between g mL_between dy my sy [zR 10 0, zI (v.1 63 0 (j + 1)), zI (v.1 63 0 (j + 2)), zR 64 0] v (gd_rI (fun (k : Int32) v1 => v1.2.2.2.2.2 = v.2.2.2.2.2 ∧ gd_C g mX11_between dz 0 0 [zR 11 0, zI (v1.1 63 0 (j + 1)), zI (v1.1 63 0 (j + 2))] v1 (gd_rI (fun (y : Int32) v2 => gd_C g mX11_thrown 2 0 0 [zR 11 0] v2 (gd_rI (fun (t : Int32) v3 => t = k ∧ (k = 0 → v3.2.1 64 0 0 = y.toInt64) ∧ gd_G g mL_law d (bc - my) (bs - sy) 1458 [(0, zR 63 0), (1, zR 10 0), (2, zR 11 0), (3, zR 64 0), (4, zI (nI j))] [] v3 Q) (fun E v9 => Q (Sum.inr E) v9))) (fun E v9 => Q (Sum.inr E) v9))) (fun E v9 => Q (Sum.inr E) v9))) : gd_G g mL_law d bc bs 1323 [(0, zR 63 0), (1, zR 10 0), (2, zR 11 0), (3, zR 64 0), (4, zI (nI j))] [] v Q := by
  refine gd_aload_n 1 dL_law_1323 rfl rfl ?_
  refine gd_aload_n 0 dL_law_1324 rfl rfl ?_
  refine gd_iload 4 dL_law_1325 rfl ?_
  refine gd_iconst (x9 := nI 1) dL_law_1327 rfl ?_
  refine gd_iadd dL_law_1328 ?_
  rw [nI_add]
  refine gd_iaload (k := 63) (i := 0) (n := v.2.2.2.2.2) ⟨by decide, by decide⟩ rfl dL_law_1329 rfl (nu_in (by omega) (by omega)) ?_
  rw [nI_clamp (n := j + 1) (by omega)]
  refine gd_aload_n 0 dL_law_1330 rfl rfl ?_
  refine gd_iload 4 dL_law_1331 rfl ?_
  refine gd_iconst (x9 := nI 2) dL_law_1333 rfl ?_
  refine gd_iadd dL_law_1334 ?_
  rw [nI_add]
  refine gd_iaload (k := 63) (i := 0) (n := v.2.2.2.2.2) ⟨by decide, by decide⟩ rfl dL_law_1335 rfl (nu_in (by omega) (by omega)) ?_
  rw [nI_clamp (n := j + 2) (by omega)]
  refine gd_aload_n 3 dL_law_1336 rfl rfl ?_
  refine gd_callSHI (N := mL_between) (dy := dy) (my := my) (sy := sy) (As := [zR 10 0, zI (v.1 63 0 (j + 1)), zI (v.1 63 0 (j + 2)), zR 64 0]) (rest := []) lL_153 tL_between dL_law_1337 rfl rfl ⟨hd, by show 8 + (5 + 11) + 60 * dy ≤ 60 * d; omega⟩ hb (Nat.le_of_ble_eq_true rfl) h ?_
  rintro k v1 ⟨e1, h⟩
  have hj1 : j + 5 < v1.2.2.2.2.2 := by rw [e1]; exact hj
  have hl1 : v1.2.2.2.2.2 ≤ 3072 := by rw [e1]; exact hl
  refine gd_istore dL_law_1340 (Nat.le_of_ble_eq_true rfl) rfl ?_
  refine gd_aload_n 3 dL_law_1342 rfl rfl ?_
  refine gd_aload_n 1 dL_law_1343 rfl rfl ?_
  refine gd_iload 5 dL_law_1344 rfl ?_
  refine gd_iconst (x9 := nI 1) dL_law_1346 rfl ?_
  refine gd_iadd dL_law_1347 ?_
  rw [nI_add]
  refine gd_iaload (k := 63) (i := 0) (n := v1.2.2.2.2.2) ⟨by decide, by decide⟩ rfl dL_law_1348 rfl (nu_in (by omega) (by omega)) ?_
  rw [nI_clamp (n := j + 1) (by omega)]
  refine gd_aload_n 1 dL_law_1349 rfl rfl ?_
  refine gd_iload 5 dL_law_1350 rfl ?_
  refine gd_iconst (x9 := nI 2) dL_law_1352 rfl ?_
  refine gd_iadd dL_law_1353 ?_
  rw [nI_add]
  refine gd_iaload (k := 63) (i := 0) (n := v1.2.2.2.2.2) ⟨by decide, by decide⟩ rfl dL_law_1354 rfl (nu_in (by omega) (by omega)) ?_
  rw [nI_clamp (n := j + 2) (by omega)]
  refine gd_callVI (N := mX11_between) (dy := dz) (my := 0) (sy := 0) (k := 11) (i := 0) (As := [zI (v1.1 63 0 (j + 1)), zI (v1.1 63 0 (j + 2))]) (rest := []) lL_155 iX11_between sX11_between rfl dL_law_1355 rfl rfl ⟨hz, by show 8 + (3 + 11) + 60 * dz ≤ 60 * d; omega⟩ ⟨Nat.zero_le _, Nat.zero_le _⟩ (Nat.le_of_ble_eq_true rfl) h ?_
  rintro y v2 h
  refine gd_istore dL_law_1358 (Nat.le_of_ble_eq_true rfl) rfl ?_
  refine gd_aload_n 4 dL_law_1360 rfl rfl ?_
  refine gd_callVI (N := mX11_thrown) (dy := 2) (my := 0) (sy := 0) (k := 11) (i := 0) (As := []) (rest := []) lL_90 iX11_thrown sX11_thrown rfl dL_law_1361 rfl rfl ⟨ht, by show 8 + (1 + 11) + 60 * 2 ≤ 60 * d; omega⟩ ⟨Nat.zero_le _, Nat.zero_le _⟩ (Nat.le_of_ble_eq_true rfl) h ?_
  rintro t v3 ⟨e3, e4, h⟩
  refine gd_iload 1 dL_law_1364 rfl ?_
  refine gd_icmp_eq dL_law_1366 (tgt := 1371) (by decide) (fun _ => ?_) (fun q => absurd e3 q)
  refine gd_iload 1 dL_law_1371 rfl ?_
  refine gd_if_ne dL_law_1373 (tgt := 1388) (by decide) (fun _ => gd_goto dL_law_1388 (tgt := 1458) (by decide) (gd_locals [2, 3, 4, 5, 6] rfl h)) (fun q => ?_)
  refine gd_aload_n 5 dL_law_1376 rfl rfl ?_
  refine gd_iconst (x9 := nI 0) dL_law_1377 rfl ?_
  refine gd_laload (k := 64) (i := 0) (n := 1) ⟨by decide, by decide⟩ rfl dL_law_1378 rfl (nu_in (by decide) (by decide)) ?_
  rw [nI_clamp (n := 0) (by decide)]
  refine gd_iload 0 dL_law_1379 rfl ?_
  refine gd_i2l dL_law_1381 ?_
  exact gd_lc_eq dL_law_1382 dL_law_1383 (tgt := 1388) (by decide) (fun _ => gd_goto dL_law_1388 (tgt := 1458) (by decide) (gd_locals [2, 3, 4, 5, 6] rfl h)) (fun q9 => absurd (e4 q) q9)
theorem eL_mean {g : ab_E} {d bc bs j dy dz my sy : Nat} {v : gd_D} {Q : ab_O → gd_D → Prop} (hd : dy + 1 ≤ d) (hz : dz + 1 ≤ d) (ht : 2 + 1 ≤ d) (hj : j + 5 < v.2.2.2.2.2) (hl : v.2.2.2.2.2 ≤ 3072) (hb : my ≤ bc ∧ sy ≤ bs) (h : gd_C g mX10_mean dy my sy [zR 10 0] v (gd_rJ (fun (k : Int64) v1 => v1.2.2.2.2.2 = v.2.2.2.2.2 ∧ gd_C g mX11_mean dz 0 0 [zR 11 0] v1 (gd_rJ (fun (y : Int64) v2 => k = y ∧ gd_G g mL_law d (bc - my) (bs - sy) 1458 [(0, zR 63 0), (1, zR 10 0), (2, zR 11 0), (3, zR 64 0), (4, zI (nI j))] [] v2 Q) (fun E v9 => Q (Sum.inr E) v9))) (fun E v9 => Q (Sum.inr E) v9))) : gd_G g mL_law d bc bs 1391 [(0, zR 63 0), (1, zR 10 0), (2, zR 11 0), (3, zR 64 0), (4, zI (nI j))] [] v Q := by
  refine gd_aload_n 1 dL_law_1391 rfl rfl ?_
  refine gd_callVJ (N := mX10_mean) (dy := dy) (my := my) (sy := sy) (k := 10) (i := 0) (As := []) (rest := []) lL_156 iX10_mean sX10_mean rfl dL_law_1392 rfl rfl ⟨hd, by show 8 + (2 + 11) + 60 * dy ≤ 60 * d; omega⟩ hb (Nat.le_of_ble_eq_true rfl) h ?_
  rintro k v1 ⟨e1, h⟩
  have hj1 : j + 5 < v1.2.2.2.2.2 := by rw [e1]; exact hj
  have hl1 : v1.2.2.2.2.2 ≤ 3072 := by rw [e1]; exact hl
  refine gd_aload_n 2 dL_law_1395 rfl rfl ?_
  refine gd_callVJ (N := mX11_mean) (dy := dz) (my := 0) (sy := 0) (k := 11) (i := 0) (As := []) (rest := [zJ k]) lL_160 iX11_mean sX11_mean rfl dL_law_1396 rfl rfl ⟨hz, by show 8 + (6 + 11) + 60 * dz ≤ 60 * d; omega⟩ ⟨Nat.zero_le _, Nat.zero_le _⟩ (Nat.le_of_ble_eq_true rfl) h ?_
  rintro y v2 ⟨e2, h⟩
  exact gd_lc_eq dL_law_1399 dL_law_1400 (tgt := 1458) (by decide) (fun _ => h) (fun q => absurd e2 q)
theorem eL_outside {g : ab_E} {d bc bs j dy dz my sy : Nat} {v : gd_D} {Q : ab_O → gd_D → Prop} (hd : dy + 1 ≤ d) (hz : dz + 1 ≤ d) (ht : 2 + 1 ≤ d) (hj : j + 5 < v.2.2.2.2.2) (hl : v.2.2.2.2.2 ≤ 3072) (hb : my ≤ bc ∧ sy ≤ bs) (h : gd_C g mX10_outside dy my sy [zR 10 0] v (gd_rJ (fun (k : Int64) v1 => v1.2.2.2.2.2 = v.2.2.2.2.2 ∧ gd_C g mX11_outside dz 0 0 [zR 11 0] v1 (gd_rJ (fun (y : Int64) v2 => k = y ∧ gd_G g mL_law d (bc - my) (bs - sy) 1458 [(0, zR 63 0), (1, zR 10 0), (2, zR 11 0), (3, zR 64 0), (4, zI (nI j))] [] v2 Q) (fun E v9 => Q (Sum.inr E) v9))) (fun E v9 => Q (Sum.inr E) v9))) : gd_G g mL_law d bc bs 1405 [(0, zR 63 0), (1, zR 10 0), (2, zR 11 0), (3, zR 64 0), (4, zI (nI j))] [] v Q := by
  refine gd_aload_n 1 dL_law_1405 rfl rfl ?_
  refine gd_callVJ (N := mX10_outside) (dy := dy) (my := my) (sy := sy) (k := 10) (i := 0) (As := []) (rest := []) lL_161 iX10_outside sX10_outside rfl dL_law_1406 rfl rfl ⟨hd, by show 8 + (1 + 11) + 60 * dy ≤ 60 * d; omega⟩ hb (Nat.le_of_ble_eq_true rfl) h ?_
  rintro k v1 ⟨e1, h⟩
  have hj1 : j + 5 < v1.2.2.2.2.2 := by rw [e1]; exact hj
  have hl1 : v1.2.2.2.2.2 ≤ 3072 := by rw [e1]; exact hl
  refine gd_aload_n 2 dL_law_1409 rfl rfl ?_
  refine gd_callVJ (N := mX11_outside) (dy := dz) (my := 0) (sy := 0) (k := 11) (i := 0) (As := []) (rest := [zJ k]) lL_164 iX11_outside sX11_outside rfl dL_law_1410 rfl rfl ⟨hz, by show 8 + (1 + 11) + 60 * dz ≤ 60 * d; omega⟩ ⟨Nat.zero_le _, Nat.zero_le _⟩ (Nat.le_of_ble_eq_true rfl) h ?_
  rintro y v2 ⟨e2, h⟩
  exact gd_lc_eq dL_law_1413 dL_law_1414 (tgt := 1458) (by decide) (fun _ => h) (fun q => absurd e2 q)
theorem eL_print {g : ab_E} {d bc bs j dy dz my sy : Nat} {v : gd_D} {Q : ab_O → gd_D → Prop} (hd : dy + 1 ≤ d) (hz : dz + 1 ≤ d) (ht : 2 + 1 ≤ d) (hj : j + 5 < v.2.2.2.2.2) (hl : v.2.2.2.2.2 ≤ 3072) (hb : my ≤ bc ∧ sy ≤ bs) (h : gd_C g mX10_print dy my sy [zR 10 0] v (gd_rJ (fun (k : Int64) v1 => v1.2.2.2.2.2 = v.2.2.2.2.2 ∧ gd_C g mX11_print dz 0 0 [zR 11 0] v1 (gd_rJ (fun (y : Int64) v2 => k = y ∧ gd_G g mL_law d (bc - my) (bs - sy) 1458 [(0, zR 63 0), (1, zR 10 0), (2, zR 11 0), (3, zR 64 0), (4, zI (nI j))] [] v2 Q) (fun E v9 => Q (Sum.inr E) v9))) (fun E v9 => Q (Sum.inr E) v9))) : gd_G g mL_law d bc bs 1419 [(0, zR 63 0), (1, zR 10 0), (2, zR 11 0), (3, zR 64 0), (4, zI (nI j))] [] v Q := by
  refine gd_aload_n 1 dL_law_1419 rfl rfl ?_
  refine gd_callVJ (N := mX10_print) (dy := dy) (my := my) (sy := sy) (k := 10) (i := 0) (As := []) (rest := []) lL_165 iX10_print sX10_print rfl dL_law_1420 rfl rfl ⟨hd, by show 8 + (4 + 11) + 60 * dy ≤ 60 * d; omega⟩ hb (Nat.le_of_ble_eq_true rfl) h ?_
  rintro k v1 ⟨e1, h⟩
  have hj1 : j + 5 < v1.2.2.2.2.2 := by rw [e1]; exact hj
  have hl1 : v1.2.2.2.2.2 ≤ 3072 := by rw [e1]; exact hl
  refine gd_aload_n 2 dL_law_1423 rfl rfl ?_
  refine gd_callVJ (N := mX11_print) (dy := dz) (my := 0) (sy := 0) (k := 11) (i := 0) (As := []) (rest := [zJ k]) lL_168 iX11_print sX11_print rfl dL_law_1424 rfl rfl ⟨hz, by show 8 + (4 + 11) + 60 * dz ≤ 60 * d; omega⟩ ⟨Nat.zero_le _, Nat.zero_le _⟩ (Nat.le_of_ble_eq_true rfl) h ?_
  rintro y v2 ⟨e2, h⟩
  exact gd_lc_eq dL_law_1427 dL_law_1428 (tgt := 1458) (by decide) (fun _ => h) (fun q => absurd e2 q)
theorem eL_status {g : ab_E} {d bc bs j dy dz my sy : Nat} {v : gd_D} {Q : ab_O → gd_D → Prop} (hd : dy + 1 ≤ d) (hz : dz + 1 ≤ d) (ht : 2 + 1 ≤ d) (hj : j + 5 < v.2.2.2.2.2) (hl : v.2.2.2.2.2 ≤ 3072) (hb : my ≤ bc ∧ sy ≤ bs) (h : gd_C g mX10_status dy my sy [zR 10 0, zI (v.1 63 0 (j + 1))] v (gd_rI (fun (k : Int32) v1 => v1.2.2.2.2.2 = v.2.2.2.2.2 ∧ gd_C g mX11_status dz 0 0 [zR 11 0, zI (v1.1 63 0 (j + 1))] v1 (gd_rI (fun (y : Int32) v2 => k = y ∧ gd_G g mL_law d (bc - my) (bs - sy) 1458 [(0, zR 63 0), (1, zR 10 0), (2, zR 11 0), (3, zR 64 0), (4, zI (nI j))] [] v2 Q) (fun E v9 => Q (Sum.inr E) v9))) (fun E v9 => Q (Sum.inr E) v9))) : gd_G g mL_law d bc bs 1433 [(0, zR 63 0), (1, zR 10 0), (2, zR 11 0), (3, zR 64 0), (4, zI (nI j))] [] v Q := by
  refine gd_aload_n 1 dL_law_1433 rfl rfl ?_
  refine gd_aload_n 0 dL_law_1434 rfl rfl ?_
  refine gd_iload 4 dL_law_1435 rfl ?_
  refine gd_iconst (x9 := nI 1) dL_law_1437 rfl ?_
  refine gd_iadd dL_law_1438 ?_
  rw [nI_add]
  refine gd_iaload (k := 63) (i := 0) (n := v.2.2.2.2.2) ⟨by decide, by decide⟩ rfl dL_law_1439 rfl (nu_in (by omega) (by omega)) ?_
  rw [nI_clamp (n := j + 1) (by omega)]
  refine gd_callVI (N := mX10_status) (dy := dy) (my := my) (sy := sy) (k := 10) (i := 0) (As := [zI (v.1 63 0 (j + 1))]) (rest := []) lL_169 iX10_status sX10_status rfl dL_law_1440 rfl rfl ⟨hd, by show 8 + (2 + 11) + 60 * dy ≤ 60 * d; omega⟩ hb (Nat.le_of_ble_eq_true rfl) h ?_
  rintro k v1 ⟨e1, h⟩
  have hj1 : j + 5 < v1.2.2.2.2.2 := by rw [e1]; exact hj
  have hl1 : v1.2.2.2.2.2 ≤ 3072 := by rw [e1]; exact hl
  refine gd_aload_n 2 dL_law_1443 rfl rfl ?_
  refine gd_aload_n 0 dL_law_1444 rfl rfl ?_
  refine gd_iload 4 dL_law_1445 rfl ?_
  refine gd_iconst (x9 := nI 1) dL_law_1447 rfl ?_
  refine gd_iadd dL_law_1448 ?_
  rw [nI_add]
  refine gd_iaload (k := 63) (i := 0) (n := v1.2.2.2.2.2) ⟨by decide, by decide⟩ rfl dL_law_1449 rfl (nu_in (by omega) (by omega)) ?_
  rw [nI_clamp (n := j + 1) (by omega)]
  refine gd_callVI (N := mX11_status) (dy := dz) (my := 0) (sy := 0) (k := 11) (i := 0) (As := [zI (v1.1 63 0 (j + 1))]) (rest := [zI k]) lL_172 iX11_status sX11_status rfl dL_law_1450 rfl rfl ⟨hz, by show 8 + (2 + 11) + 60 * dz ≤ 60 * d; omega⟩ ⟨Nat.zero_le _, Nat.zero_le _⟩ (Nat.le_of_ble_eq_true rfl) h ?_
  rintro y v2 ⟨e2, h⟩
  exact gd_icmp_eq dL_law_1453 (tgt := 1458) (by decide) (fun _ => h) (fun q => absurd e2 q)
