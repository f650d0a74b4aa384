/-! A NEW OBJECT over abstract worlds -/
section NC
variable {g : ab_E} {M : ab_M} {d bc bs pc : Nat} {L : List (Nat × ab_V)} {st : List ab_V} {w : ab_W} {Q : ab_O → ab_W → Prop}
theorem ab_newc {k n idx : Nat} {q : vw_C} (hk : ab_cl[k]? = some q) (hk12 : k < 12) (hty : ∀ j, j < q.2.2 → parseFieldDescriptor (q.2.1 j).2.2.1 = some (ab_ty k j)) (hdv : ∀ j, j < q.2.2 → ab_ty k j = .int ∨ ab_ty k j = .long ∨ (∃ n, ab_ty k j = .object n) ∨ ∃ t, ab_ty k j = .array t) (hl : Cond.classLink M.1.cls idx q.1 ∈ lw_tbl) (hi : Cond.instantiable q.1 n ∈ lw_tbl) (hin : Cond.initialized q.1 ∈ lw_tbl) (hG : GoodIn lw_tbl (u_ws q.1 q.2.1 q.2.2)) (hgi : goodWord (Cond.instantiable q.1 n) = true) (hd : decode M.2.1 pc = .ok (.new idx, 3)) (hb : 1 ≤ bc ∧ n ≤ bs) (kk : ab_G g M d (bc - 1) (bs - n) (pc + 3) L (zR k (w.2.2.2.1 k) :: st) (ab_na w k 0) Q) : ab_G g M d bc bs pc L st w Q := by
  intro Z p e R s m args below meth c mc ms X φ0 w0 φ H locs cells slots ls F
  have F' := F
  obtain ⟨f1, f2, f3, f4, f5, f6, f7⟩ := F
  have hW := X.2.2.2.2.2.2.1
  have hKn := (Z.2.2.1.moved hW.alike).1 k q hk
  refine W.newcK X.1 X.2.1 X.2.2.2.1 (ab_word Z hW hl rfl args) (ab_word Z hW hi hgi args) (ab_word Z hW hin rfl args) rfl hd (by have := X.2.2.2.2.2.2.2.2.2.2.2.1; omega) (by have := X.2.2.2.2.2.2.2.2.2.2.2.2.1; omega) hKn.2.1 rfl fun H1 kC hkC e1 z1 o1 => ?_
  have hcell : ab_cell g (ab_nf φ k (w.2.2.2.1 k) H.size) (ab_na w k 0) H1 k (w.2.2.2.1 k) := by
    refine ⟨fun q' hq' => ?_, fun h12 => absurd h12.1 (by omega)⟩
    cases hk.symm.trans hq'
    rw [show ab_nf φ k (w.2.2.2.1 k) H.size k (w.2.2.2.1 k) = H.size from if_pos ⟨rfl, rfl⟩]
    have hts : ∀ w ∈ u_ws q.1 q.2.1 q.2.2, w.before args s = true := fun w hw => by
      obtain ⟨a0, h0⟩ := Z.2.1
      exact word_at hW (hG w hw).2 (h0 w (hG w hw).1)
    refine (u_born (ab_ty k) hts (fun w hw => hw) hKn hkC e1 hty).to (fun j hj => ?_)
    have zi : (ab_na w k 0).1 k (w.2.2.2.1 k) j = 0 := if_pos ⟨rfl, rfl⟩
    have zj : (ab_na w k 0).2.1 k (w.2.2.2.1 k) j = 0 := if_pos ⟨rfl, rfl⟩
    have zr : (ab_na w k 0).2.2.1 k (w.2.2.2.1 k) j = none := if_pos ⟨rfl, rfl⟩
    unfold ab_sv
    rcases hdv j hj with h | h | ⟨n, h⟩ | ⟨t, h⟩ <;> rw [h]
    · simp only [zi]; rfl
    · simp only [zj]; rfl
    · simp only [zr]; rfl
    · simp only [zr]; rfl
  obtain ⟨hR1, hx1⟩ := f2.new (by omega) (by omega) rfl (w' := ab_na w k 0) (fun a b hne => ⟨by funext z; exact if_neg hne, by funext z; exact if_neg hne, by funext z; exact if_neg hne, if_neg hne⟩) (fun j x hx => by
    rw [show (ab_na w k 0).2.2.1 k (w.2.2.2.1 k) j = none from if_pos ⟨rfl, rfl⟩] at hx; cases hx) hcell z1 o1
  have := kk Z p e R s m args below meth c mc ms X φ0 w0 _ H1 locs (cells + 1) (slots + n) ls (ab_F_new (N := n) hb F' hR1 hx1 (fun v hv => ?_))
  · rw [List.map_cons, ab_st_ext hx1 f7] at this
    have e5 : ab_vl (ab_nf φ k (w.2.2.2.1 k) H.size) (zR k (w.2.2.2.1 k)) = .ref H.size := by show Value.ref _ = _; rw [show ab_nf φ k (w.2.2.2.1 k) H.size k (w.2.2.2.1 k) = H.size from if_pos ⟨rfl, rfl⟩]
    rw [e5] at this
    exact this
  · rcases List.mem_cons.mp hv with h | h
    · refine Or.inr ?_
      rw [h]
      exact ab_okR (by show _ < if k = k then _ else _; rw [if_pos rfl]; omega)
    · exact Or.inl h
end NC
