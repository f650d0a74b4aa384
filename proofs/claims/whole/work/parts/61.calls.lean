/-! THE CALLS: parts, part, chain, ring -/
/-- PARTS as they are now -/
abbrev gs_P (S : gs_T) (s : Nat) : List (Nat × Nat) := (pt_all S.1 (hs_O S.1)).1 s
def pv (S : gs_T) (s i w : Nat) : Int32 := if w = 0 then nI ((gs_P S s).getD i (0, 0)).1 else nI ((gs_P S s).getD i (0, 0)).2
def cv (S : gs_T) (s i : Nat) : Option Nat := if hq S.1 s then lk (pt_P (pt_all S.1 (hs_O S.1))) i (fun _ => false) s else none
def rv (S : gs_T) (n : Nat) (R : List Nat) : Int32 := if n = 0 then nI R.length else if n = 1 then nI (rg_u S.1 R.reverse) else if n - 2 < R.length then nI (R.reverse.getD (n - 2) 0) else -1
theorem gs_P_ok {S : gs_T} {s : Nat} (hS : gs_ok S) : (gs_P S s).length ≤ 24 ∧ (∀ q ∈ gs_P S s, q.1 < Hh S.1 1) ∧ ((gs_P S s).map Prod.fst).Nodup := by
  have h := pt_P_ok hS.1 (s := s)
  have hOk := hs_O_ok S.1
  refine ⟨by rw [← List.length_map (f := Prod.fst)]; exact h.1, fun q hq => h.2 q.1 (List.mem_map.mpr ⟨q, hq, rfl⟩), ?_⟩
  have := (pt_all_ok hS.1.V hOk).1 s
  rw [show (gs_P S s).map Prod.fst = pt_P (pt_all S.1 (hs_O S.1)) s from rfl, this]
  exact hOk.2.2.sublist List.filter_sublist
section CPC
variable {g : ab_E} {d : Nat} {v : gd_D} {Q : ab_O → gd_D → Prop} {S : gs_T}
theorem k_missing (hG : gc_R v S) (hS : gs_ok S) (h0 : ∀ v', fcl v v' → gc_R v' (gs_no S 0) → Q (Sum.inr "java/util/NoSuchElementException") v') : gd_C g mX10_refuseMissing 8 1 6 [zR 10 0] v Q := by
  refine c_X10_refuseMissing (by decide) ⟨nu_in (n := 0) (by decide) (by decide), nu_in (n := 0) (by decide) (by decide), ?_⟩
  rintro _ rfl
  exact h0 _ ((fr.sI (X := fy [(38, 0)]) (fy_y 0 rfl)).cl (fun k i j q => by rw [(Prod.mk.inj (List.mem_singleton.mp q)).1]; decide)) (gc_no (by decide) hG hS)
theorem k_unfit (hG : gc_R v S) (hS : gs_ok S) (h0 : ∀ v', fcl v v' → gc_R v' (gs_no S 1) → Q (Sum.inr "java/lang/IllegalArgumentException") v') : gd_C g mX10_refuseUnfit 8 1 6 [zR 10 0] v Q := by
  refine c_X10_refuseUnfit (by decide) ⟨nu_in (n := 1) (by decide) (by decide), nu_in (n := 1) (by decide) (by decide), ?_⟩
  rintro _ rfl
  exact h0 _ ((fr.sI (X := fy [(38, 0)]) (fy_y 0 rfl)).cl (fun k i j q => by rw [(Prod.mk.inj (List.mem_singleton.mp q)).1]; decide)) (gc_no (by decide) hG hS)
theorem k_parts {x : Int32} (hd : 10 ≤ d) (hG : gc_R v S) (hS : gs_ok S) (h1 : ∀ s v', s < Hh S.1 1 → x = nI s → fcl v v' → gc_R v' S → Q (Sum.inl (some (zI (nI (gs_P S s).length)))) v') (h0 : (∀ i, i < Hh S.1 1 → ¬ x = nI i) → ∀ v', fcl v v' → gc_R v' (gs_no S 0) → Q (Sum.inr "java/util/NoSuchElementException") v') : gd_C g mX10_parts d 1 6 [zR 10 0, zI x] v Q := by
  have h24 := hS.1.2.1
  refine c_X10_parts hd (k_needSale (Nat.le_refl 9) hG hS (fun s hs e => ?_) (fun q v' f G => h0 q v' f G))
  subst e
  rw [gd_rV_at]
  refine k_standNow (Nat.le_refl 5) hG hS (fun v1 st C1 G1 S1 F1 => ?_)
  rw [gd_rV_at, nI_clamp (by omega), (S1.1 s hs).2.1]
  exact ⟨nu_in (by omega) (by omega), h1 s v1 hs rfl C1 G1⟩
theorem rr_parts {x : Int32} (hd : 7 ≤ d) (hG : gr_R v S) (hS : gs_ok S) (h1 : ∀ s v', s < Hh S.1 1 → x = nI s → fre v v' → v'.1 11 0 0 = 0 → gr_R v' S → Q (Sum.inl (some (zI (nI (gs_P S s).length)))) v') (h0 : (∀ i, i < Hh S.1 1 → ¬ x = nI i) → ∀ v', fre v v' → v'.1 11 0 0 = 1 → gr_R v' (gs_no S 0) → Q (Sum.inl (some (zI 0))) v') : gd_C g mX11_parts d 0 0 [zR 11 0, zI x] v Q := by
  obtain ⟨b1, b2', b3⟩ := gr_begin hG
  refine c_X11_parts hd ?_
  rintro _ rfl
  refine r_isSale (Nat.le_refl 3) b1.1 hS.1 (fun s hs e => ?_) (fun hno => ?_)
  · subst e
    rw [gd_rI_at]
    refine r_fine1 (by decide) b3 ⟨fun z => absurd z (by decide), fun _ => r_partMany (Nat.le_refl 6) b1.1 hS.1 hs (fun v1 f1 O1 S1 => ?_)⟩
    obtain ⟨G1, F1, T1⟩ := gr_tool b1 f1 (by decide)
    have t := h1 s v1 hs rfl (b2'.tr F1) (T1.trans b3) G1
    rw [show (gs_P S s).length = (pt_P (pt_all S.1 (hs_O S.1)) s).length from (List.length_map _).symm] at t
    exact t
  · rw [gd_rI_at]
    refine r_fine0 (k := 0) (by decide) (by decide) b3 ?_
    obtain ⟨n1, n2, n3⟩ := gr_no (c := 1) (k := 0) (by decide) b1
    exact ⟨fun _ => h0 hno _ (b2'.tr n2) n3 n1, fun z => absurd rfl z⟩
theorem k_part {x y z : Int32} (hd : 10 ≤ d) (hG : gc_R v S) (hS : gs_ok S) (h1 : ∀ s i w v', s < Hh S.1 1 → x = nI s → i < (gs_P S s).length → y = nI i → w ≤ 1 → z = nI w → fcl v v' → gc_R v' S → Q (Sum.inl (some (zI (pv S s i w)))) v') (h0 : (∀ s i, s < Hh S.1 1 → x = nI s → i < (gs_P S s).length → ¬ y = nI i) → ∀ v', fcl v v' → gc_R v' (gs_no S 0) → Q (Sum.inr "java/util/NoSuchElementException") v') (h2 : ∀ s i, s < Hh S.1 1 → x = nI s → i < (gs_P S s).length → y = nI i → ¬ (nI 0 ≤ z ∧ z ≤ nI 1) → ∀ v', fcl v v' → gc_R v' (gs_no S 1) → Q (Sum.inr "java/lang/IllegalArgumentException") v') : gd_C g mX10_part d 3 18 [zR 10 0, zI x, zI y, zI z] v Q := by
  have h24 := hS.1.2.1
  refine c_X10_part hd (k_needSale (Nat.le_refl 9) hG hS (fun s hs e => ?_) (fun q v' f G => h0 (fun s i hs e _ => absurd e (q s hs)) v' f G))
  subst e
  rw [gd_rV_at]
  refine k_standNow (Nat.le_refl 5) hG hS (fun v1 st C1 G1 S1 F1 => ?_)
  rw [gd_rV_at]
  obtain ⟨a1, a2, a3, a4⟩ := S1.1 s hs
  have hok := gs_P_ok hS (s := s)
  have no : (∀ i, i < (gs_P S s).length → ¬ y = nI i) → wp_X10_part_26 g d (nI s) y z v1 Q := fun q => k_missing G1 hS (fun v2 f2 G2 => h0 (fun s' i hs' e hi => by
    have := nu_eq (by omega) (by omega) e
    subst this
    exact q i hi) v2 (C1.tr f2) G2)
  refine ⟨fun hc => no (fun i hi e => by rw [e] at hc; exact nI_pos (by omega) hc), fun hc => ?_⟩
  obtain ⟨i, hi, e⟩ := nI_of hc
  subst e
  rw [nI_clamp (by omega), a2]
  refine ⟨nu_in (by omega) (by omega), fun hlt => ?_, fun hlt => no (fun j hj e => ?_)⟩
  · rw [nI_ltI hi (by omega)] at hlt
    obtain ⟨c1, c2, -⟩ := a4 i hlt
    refine k_needWithin (Nat.le_refl 9) G1 hS (fun q1 q2 => ?_) (fun q v2 f2 G2 => h2 s i hs rfl hlt rfl q v2 (C1.tr f2) G2)
    rw [gd_rV_at]
    obtain ⟨w, -, w2, e⟩ := nu_rng (a := 0) (b := 1) (by omega) (by omega) q1 q2
    subst e
    have t := h1 s i w v1 hs rfl hlt rfl w2 rfl C1 G1
    rw [nI_clamp (by omega), a1, nI_add, nI_clamp (by omega)]
    refine ⟨nu_in (by omega) (by omega), fun e => ⟨nu_in (by omega) (by omega), ?_⟩, fun e => ⟨nu_in (by omega) (by omega), ?_⟩⟩
    · rintro _ rfl
      have e : ¬ w = 0 := fun q => e (by rw [q]; rfl)
      unfold pv at t
      rw [if_neg e] at t
      rw [c2]; exact t
    · rintro _ rfl
      have e := nu_eq (k := 0) (by omega) (by omega) e
      unfold pv at t
      rw [if_pos e] at t
      rw [c1]; exact t
  · have := nu_eq hi (by omega) e
    subst this
    exact hlt (nI_lt hj (by omega))
theorem rr_part {x y z : Int32} (hd : 7 ≤ d) (hG : gr_R v S) (hS : gs_ok S) (h1 : ∀ s i w v', s < Hh S.1 1 → x = nI s → i < (gs_P S s).length → y = nI i → w ≤ 1 → z = nI w → fre v v' → v'.1 11 0 0 = 0 → gr_R v' S → Q (Sum.inl (some (zI (pv S s i w)))) v') (h0 : (∀ s i, s < Hh S.1 1 → x = nI s → i < (gs_P S s).length → ¬ y = nI i) → ∀ v', fre v v' → v'.1 11 0 0 = 1 → gr_R v' (gs_no S 0) → Q (Sum.inl (some (zI 0))) v') (h2 : ∀ s i, s < Hh S.1 1 → x = nI s → i < (gs_P S s).length → y = nI i → ¬ (nI 0 ≤ z ∧ z ≤ nI 1) → ∀ v', fre v v' → v'.1 11 0 0 = 2 → gr_R v' (gs_no S 1) → Q (Sum.inl (some (zI 0))) v') : gd_C g mX11_part d 0 0 [zR 11 0, zI x, zI y, zI z] v Q := by
  have h24 := hS.1.2.1
  obtain ⟨b1, b2', b3⟩ := gr_begin hG
  have no : ∀ u : gd_D, fre v u → u.1 11 0 0 = 0 → gr_R u S → (∀ s i, s < Hh S.1 1 → x = nI s → i < (gs_P S s).length → ¬ y = nI i) → wp_X11_part_50 g d x y z 0 u Q := by
    intro u fu tu Gu hn
    refine r_fine0 (k := 0) (by decide) (by decide) tu ?_
    obtain ⟨n1, n2, n3⟩ := gr_no (c := 1) (k := 0) (by decide) Gu
    exact ⟨fun _ => h0 hn _ (fu.tr n2) n3 n1, fun z => absurd rfl z⟩
  refine c_X11_part hd ?_
  rintro _ rfl
  refine r_isSale (Nat.le_refl 3) b1.1 hS.1 (fun s hs e => ?_) (fun hno => ⟨fun _ => no _ b2' b3 b1 (fun s i hs e _ => absurd e (hno s hs)), fun z => absurd rfl z⟩)
  refine ⟨fun z => absurd z (by decide), fun _ => ?_⟩
  refine r_isSale (Nat.le_refl 3) b1.1 hS.1 (fun s' hs' e' => ?_) (fun hno => absurd e (hno s hs))
  refine ⟨fun z => absurd z (by decide), fun _ => ?_⟩
  subst e
  have hok := gs_P_ok hS (s := s)
  refine r_partMany (Nat.le_refl 6) b1.1 hS.1 hs (fun v1 f1 O1 S1 => ?_)
  rw [gd_rI_at, show (pt_P (pt_all S.1 (hs_O S.1)) s).length = (gs_P S s).length from List.length_map _]
  obtain ⟨G1, F1, T1⟩ := gr_tool b1 f1 (by decide)
  refine r_lies ?_
  have hcond : ((0 : Int64) ≤ y.toInt64 ∧ y.toInt64 ≤ (nI (gs_P S s).length - 1).toInt64) ↔ ∃ i, i < (gs_P S s).length ∧ y = nI i := by
    have e1 : (nI (gs_P S s).length - 1).toInt64.toInt = ((gs_P S s).length : Int) - 1 := by
      rw [Int32.toInt_toInt64, show (1 : Int32) = nI 1 from rfl, pk_sub_toInt (by omega) (by omega)]; rfl
    rw [Int64.le_iff_toInt_le, Int64.le_iff_toInt_le, e1, Int32.toInt_toInt64, show (0 : Int64).toInt = 0 from rfl]
    constructor
    · intro q
      refine ⟨y.toInt.toNat, by omega, ?_⟩
      apply Int32.toInt_inj.mp
      rw [nI_toInt (by omega)]; omega
    · rintro ⟨i, hi, e⟩
      rw [e, nI_toInt (by omega)]; omega
  by_cases hp : (0 : Int64) ≤ y.toInt64 ∧ y.toInt64 ≤ (nI (gs_P S s).length - 1).toInt64
  · rw [decide_eq_true hp]
    refine ⟨fun z => absurd z (by decide), fun _ => ?_⟩
    obtain ⟨i, hi, e⟩ := hcond.mp hp
    subst e
    refine r_fine1 (by decide) (T1.trans b3) ⟨fun z => absurd z (by decide), fun _ => r_lies ?_⟩
    rw [gd_rI_at]
    refine r_fineIf (k := 1) (by decide) (by decide) (T1.trans b3) (fun hp2 => ?_) (fun hp2 => ?_)
    · have hp' := (nu_lies (x := z) (a := 0) (b := 1) (by omega) (by omega)).mp hp2
      obtain ⟨w, -, w2, e⟩ := nu_rng (a := 0) (b := 1) (by omega) (by omega) hp'.1 hp'.2
      subst e
      have t := h1 s i w v1 hs rfl hi rfl w2 rfl (b2'.tr F1) (T1.trans b3) G1
      refine ⟨fun _ => r_partAt' (Nat.le_refl 3) (by omega) G1.1 hS.1 O1 S1 hs ?_, fun z => absurd z (by decide)⟩
      have ei : (pt_P (pt_all S.1 (hs_O S.1)) s)[i]? = some ((gs_P S s).getD i (0, 0)).1 := by
        unfold pt_P
        rw [List.getElem?_map, List.getD_eq_getElem?_getD, List.getElem?_eq_getElem hi]
        rfl
      have hb : ((gs_P S s).getD i (0, 0)).1 < Hh S.1 1 := hok.2.1 _ (by
        rw [List.getD_eq_getElem?_getD, List.getElem?_eq_getElem hi]
        exact List.getElem_mem hi)
      rw [ei]
      show _ ∧ _
      rw [show oi (some ((gs_P S s).getD i (0, 0)).1) = nI ((gs_P S s).getD i (0, 0)).1 from rfl]
      refine ⟨fun e => ?_, fun e => ?_⟩
      · have e : ¬ w = 0 := fun q => e (by rw [q]; rfl)
        rw [nu_I 24, pk_mul, nI_add, nI_clamp (by omega)]
        refine ⟨nu_in (by omega) (by omega), ?_⟩
        rintro _ rfl
        unfold pv at t
        rw [if_neg e, ← pt_u_at (gs_P S s) i hok.2.2 hi] at t
        rw [((S1 s hs).2 _ hb).1]
        exact t
      · have e := nu_eq (k := 0) (by omega) (by omega) e
        unfold pv at t
        rw [if_pos e] at t
        exact t
    · have hp' : ¬ (nI 0 ≤ z ∧ z ≤ nI 1) := fun q => hp2 ((nu_lies (x := z) (a := 0) (b := 1) (by omega) (by omega)).mpr q)
      obtain ⟨n1, n2, n3⟩ := gr_no (c := 2) (k := 1) (by decide) G1
      exact ⟨fun z => absurd rfl z, fun _ => h2 s i hs rfl hi rfl hp' _ ((b2'.tr F1).tr n2) n3 n1⟩
  · rw [decide_eq_false hp]
    refine ⟨fun _ => no v1 (b2'.tr F1) (T1.trans b3) G1 (fun s2 i hs2 e hi e2 => ?_), fun z => absurd rfl z⟩
    have := nu_eq (by omega) (by omega) e
    subst this
    exact hp (hcond.mpr ⟨i, hi, e2⟩)
theorem k_chain {x y : Int32} (hd : 10 ≤ d) (hG : gc_R v S) (hS : gs_ok S) (h1 : ∀ s i a v', s < Hh S.1 1 → x = nI s → i < 2 ^ 31 → y = nI i → cv S s i = some a → fcl v v' → gc_R v' S → Q (Sum.inl (some (zI (nI a)))) v') (h0 : (∀ s i a, s < Hh S.1 1 → x = nI s → i < 2 ^ 31 → y = nI i → ¬ cv S s i = some a) → ∀ v', fcl v v' → gc_R v' (gs_no S 0) → Q (Sum.inr "java/util/NoSuchElementException") v') : gd_C g mX10_chain d 3 18 [zR 10 0, zI x, zI y] v Q := by
  have h24 := hS.1.2.1
  refine c_X10_chain hd (k_needSale (Nat.le_refl 9) hG hS (fun s hs e => ?_) (fun q v' f G => h0 (fun s i a hs e _ _ => absurd e (q s hs)) v' f G))
  subst e
  rw [gd_rV_at]
  have no : ∀ u : gd_D, fcl v u → gc_R u S → (∀ i a, i < 2 ^ 31 → y = nI i → ¬ cv S s i = some a) → ∀ Q' : ab_O → gd_D → Prop, (∀ v', Q (Sum.inr "java/util/NoSuchElementException") v' → Q' (Sum.inr "java/util/NoSuchElementException") v') → gd_C g mX10_refuseMissing 8 1 6 [zR 10 0] u Q' := fun u fu Gu q Q' hQ => k_missing Gu hS (fun v2 f2 G2 => hQ v2 (h0 (fun s' i a hs' e hi e2 => by
    have := nu_eq (by omega) (by omega) e
    subst this
    exact q i a hi e2) v2 (fu.tr f2) G2))
  refine ⟨fun hc => no v fcl.rf hG (fun i a hi e => by rw [e] at hc; exact absurd hc (nI_pos hi)) _ (fun _ h => h), fun hc => ?_⟩
  obtain ⟨i, hi, e⟩ := nI_of hc
  subst e
  refine k_isAsked hG.1 hS.1 hs ?_
  cases hq1 : hq S.1 s with
  | false =>
    refine ⟨fun z => absurd rfl z, fun _ => no v fcl.rf hG (fun j a _ _ => ?_) _ (fun _ h => h)⟩
    unfold cv; rw [hq1, if_neg Bool.false_ne_true]; exact fun z => by cases z
  | true =>
    refine ⟨fun _ => k_standNow (Nat.le_refl 5) hG hS (fun v1 st C1 G1 S1 F1 => ?_), fun z => absurd z (by decide)⟩
    rw [gd_rV_at]
    refine k_linkOf (N := Hh S.1 1) (P := (pt_all S.1 (hs_O S.1)).1) h24 hi S1 (fun a _ q hq => (gs_P_ok hS (s := a)).2.1 q hq) hs ?_
    rw [gd_rI_at]
    have ecv : cv S s i = lk (fun a => ((pt_all S.1 (hs_O S.1)).1 a).map Prod.fst) i (fun _ => false) s := by unfold cv; rw [hq1, if_pos rfl]; rfl
    rw [← ecv]
    cases hc : cv S s i with
    | none =>
      refine ⟨fun z => absurd rfl z, fun _ => no v1 C1 G1 (fun j a hj e => ?_) _ (fun _ h => h)⟩
      have := nu_eq hi hj e
      subst this
      rw [hc]; exact fun z => by cases z
    | some a =>
      have ha : ∀ (m : Nat) (A : Nat → Bool) (b : Nat), b < Hh S.1 1 → ∀ c, lk (fun a => ((pt_all S.1 (hs_O S.1)).1 a).map Prod.fst) m A b = some c → c < Hh S.1 1 := by
        intro m
        induction m with
        | zero => intro A b hb c e; cases e; exact hb
        | succ m ih =>
          intro A b hb c e
          rw [lk_c] at e
          cases hP : (pt_all S.1 (hs_O S.1)).1 b with
          | nil => rw [hP] at e; cases e
          | cons p l =>
            rw [hP] at e
            have e' : (if cl_up A b p.1 then none else lk (fun a => ((pt_all S.1 (hs_O S.1)).1 a).map Prod.fst) m (cl_up A b) p.1) = some c := e
            have hp : p.1 < Hh S.1 1 := (gs_P_ok hS (s := b)).2.1 p (by show p ∈ (pt_all S.1 (hs_O S.1)).1 b; rw [hP]; exact List.mem_cons_self)
            split at e'
            · cases e'
            · exact ih _ p.1 hp c e'
      have hlt := ha i _ s hs a (by rw [← ecv]; exact hc)
      exact ⟨fun _ => h1 s i a v1 hs rfl hi rfl hc C1 G1, fun z => absurd z (nu_m1 (by omega))⟩
theorem rr_chain {x y : Int32} (hd : 6 ≤ d) (hG : gr_R v S) (hS : gs_ok S) (h1 : ∀ s i a v', s < Hh S.1 1 → x = nI s → i < 2 ^ 31 → y = nI i → cv S s i = some a → fre v v' → v'.1 11 0 0 = 0 → gr_R v' S → Q (Sum.inl (some (zI (nI a)))) v') (h0 : (∀ s i a, s < Hh S.1 1 → x = nI s → i < 2 ^ 31 → y = nI i → ¬ cv S s i = some a) → ∀ v', fre v v' → v'.1 11 0 0 = 1 → gr_R v' (gs_no S 0) → Q (Sum.inl (some (zI 0))) v') : gd_C g mX11_chain d 0 0 [zR 11 0, zI x, zI y] v Q := by
  have h24 := hS.1.2.1
  obtain ⟨b1, b2', b3⟩ := gr_begin hG
  have no : (∀ s i a, s < Hh S.1 1 → x = nI s → i < 2 ^ 31 → y = nI i → ¬ cv S s i = some a) → wp_X11_chain_23 g d x y 0 (gd_sI v 11 0 0 0) Q := by
    intro hn
    refine r_fine0 (k := 0) (by decide) (by decide) b3 ?_
    obtain ⟨n1, n2, n3⟩ := gr_no (c := 1) (k := 0) (by decide) b1
    exact ⟨fun z => absurd rfl z, fun _ => h0 hn _ (b2'.tr n2) n3 n1⟩
  refine c_X11_chain hd ?_
  rintro _ rfl
  refine r_isSale (Nat.le_refl 3) b1.1 hS.1 (fun s hs e => ?_) (fun hno => ⟨fun _ => no (fun s i a hs e _ _ => absurd e (hno s hs)), fun z => absurd rfl z⟩)
  refine ⟨fun z => absurd z (by decide), fun _ => ?_⟩
  refine ⟨fun hc => no (fun s i a _ _ hi e => by rw [e] at hc; exact absurd hc (nI_pos hi)), fun hc => ?_⟩
  obtain ⟨i, hi, ey⟩ := nI_of hc
  subst e
  subst ey
  refine r_fine1 (by decide) b3 ⟨fun _ => r_isAsked (Nat.le_refl 3) b1.1 hS.1 hs ?_, fun z => absurd z (by decide)⟩
  rw [gd_rI_at]
  refine r_laid b1.1 hS.1 (fun w fw Ow Sw => ?_)
  obtain ⟨Gw, Fw, Tw⟩ := gr_tool b1 fw (by decide)
  have tw : w.1 11 0 0 = 0 := Tw.trans b3
  have back : ∀ u, fr (fx [55]) w u → (∀ z, z < 24 → u.1 55 0 z = 0) → gr_R u S ∧ fre v u ∧ u.1 11 0 0 = 0 := by
    intro u fu hz
    have fV' : fr fV w u := fu.wk (fun k i j q => by rw [List.mem_singleton.mp q]; exact Or.inl (by decide))
    exact ⟨gr_house (H' := S.1) Gw fV' (by rw [fu.J (fun _ => fx_n rfl)]; exact Gw.1) hz, (b2'.tr Fw).tr (fV_re fV'), by rw [fu.I (fun _ => fx_n rfl)]; exact tw⟩
  have L148 : ∀ (b : Bool) (a : Int32) (k j : Nat) (u : gd_D), (b = true → ∃ n, a = nI n ∧ cv S s i = some n) → (b = false → ∀ n, ¬ cv S s i = some n) → j + k = 24 → fr (fx [55]) w u → (∀ z, z < j → u.1 55 0 z = 0) → gd_G g mX11_chain d 0 0 148 [(0, zR 11 0), (3, zI (b2 b)), (4, zI a), (5, zI (nI j))] [] u Q := by
    intro b a k
    induction k with
    | zero =>
      intro j u hb1 hb0 hj fu hz
      have e : j = 24 := by omega
      subst e
      obtain ⟨Gu, Fu, Tu⟩ := back u fu hz
      refine w_X11_chain_148 (by omega) (pk_le 24 24 (fun _ => ?_) (fun q => absurd q (Nat.lt_irrefl _)) rfl rfl (by omega) (by omega))
      cases b with
      | true =>
        obtain ⟨n, e, en⟩ := hb1 rfl
        subst e
        exact r_fine1 (by decide) Tu ⟨fun z => absurd z (by decide), fun _ => h1 s i n u hs rfl hi rfl en Fu Tu Gu⟩
      | false =>
        refine r_fine0 (k := 0) (by decide) (by decide) Tu ?_
        obtain ⟨n1, n2, n3⟩ := gr_no (c := 1) (k := 0) (by decide) Gu
        refine ⟨fun _ => h0 (fun s' i' n hs' e hi' e2 => ?_) _ (Fu.tr n2) n3 n1, fun z => absurd rfl z⟩
        have q1 := nu_eq (by omega) (by omega) e
        have q2 := nu_eq hi hi' e2
        subst q1; subst q2
        exact hb0 rfl n
    | succ k ih =>
      intro j u hb1 hb0 hj fu hz
      refine w_X11_chain_148 (by omega) (pk_le 24 j (fun q => absurd q (by omega)) (fun _ => ⟨nu_in (by omega) (by omega), ?_⟩) rfl rfl (by omega) (by omega))
      rintro _ rfl
      rw [nI_clamp (by omega), show vp_nar .boolean 0 = 0 from by decide, nu_1]
      refine ih (j + 1) _ hb1 hb0 (by omega) (fu.tr (fr.sI (fx_y rfl))) (fun z hz2 => ?_)
      by_cases e : z = j
      · subst e; exact sI_at
      · rw [sI_ne (by omega)]; exact hz z (by omega)
  have L50 : ∀ (k j : Nat) (u : gd_D), j + k = 24 → fr (fx [55]) w u → (∀ z, z < 24 → u.1 55 0 z = 0) → gd_G g mX11_chain d 0 0 50 [(0, zR 11 0), (1, zI (nI s)), (2, zI (nI i)), (3, zI (b2 (hq S.1 s))), (4, zI (nI j))] [] u Q := by
    intro k
    induction k with
    | zero =>
      intro j u hj fu hz
      have e : j = 24 := by omega
      subst e
      obtain ⟨Gu, Fu, Tu⟩ := back u fu hz
      refine w_X11_chain_50 (by omega) (pk_le 24 24 (fun _ => ?_) (fun q => absurd q (Nat.lt_irrefl _)) rfl rfl (by omega) (by omega))
      cases hq1 : hq S.1 s with
      | false =>
        have hn : ∀ n, ¬ cv S s i = some n := fun n => by unfold cv; rw [hq1, if_neg Bool.false_ne_true]; exact fun z => by cases z
        have t := L148 false (nI s) 24 0 u (fun z => by cases z) (fun _ => hn) (by omega) fu (fun z q => absurd q (by omega))
        exact w_X11_chain_77 (by omega) ⟨fun _ => t, fun _ => ⟨fun _ => t, fun z => absurd rfl z⟩⟩
      | true =>
        have ecv : cv S s i = lk (pt_P (pt_all S.1 (hs_O S.1))) i (fun _ => false) s := by unfold cv; rw [hq1, if_pos rfl]
        have O2 : rm_O u (hs_O S.1) := Ow.k fu rfl
        have S2 : rp_S u (pt_all S.1 (hs_O S.1)) (Hh S.1 1) := fun x hx => by
          rw [fu.I (k := 53) (fun _ => fx_n rfl), fu.I (k := 51) (fun _ => fx_n rfl), fu.I (k := 52) (fun _ => fx_n rfl)]; exact Sw x hx
        exact r_links (by omega) hi Gu.1 hS.1 O2 S2 hs hz (fun u' a fu' el ha => L148 true (nI a) 24 0 u' (fun _ => ⟨a, rfl, by rw [ecv]; exact el⟩) (fun z => by cases z) (by omega) (fu.tr fu') (fun z q => absurd q (by omega))) (fun u' a fu' el => L148 false a 24 0 u' (fun z => by cases z) (fun _ n => by rw [ecv, el]; exact fun z => by cases z) (by omega) (fu.tr fu') (fun z q => absurd q (by omega)))
    | succ k ih =>
      intro j u hj fu hz
      refine w_X11_chain_50 (by omega) (pk_le 24 j (fun q => absurd q (by omega)) (fun _ => ⟨nu_in (by omega) (by omega), ?_⟩) rfl rfl (by omega) (by omega))
      rintro _ rfl
      rw [nI_clamp (by omega), show vp_nar .boolean 0 = 0 from by decide, nu_1]
      refine ih (j + 1) _ (by omega) (fu.tr (fr.sI (fx_y rfl))) (fun z hz2 => ?_)
      by_cases e : z = j
      · subst e; exact sI_at
      · rw [sI_ne (by omega)]; exact hz z hz2
  exact L50 24 0 w (by omega) fr.rf Gw.2.2.2.2.2.2
theorem k_ringQ {x : Int32} (hd : 10 ≤ d) (hG : gc_R v S) (hS : gs_ok S) (h1 : ∀ n R v', n ≤ 9 → x = nI n → rg_F S.1 (hs_O S.1) R → fcl v v' → gc_R v' S → Q (Sum.inl (some (zI (rv S n R)))) v') (hN : ∀ n v', n ≤ 9 → x = nI n → (∀ R, ¬ rg_F S.1 (hs_O S.1) R) → fcl v v' → gc_R v' S → Q (Sum.inl (some (zI (-1)))) v') (h0 : ¬ (nI 0 ≤ x ∧ x ≤ nI 9) → ∀ v', fcl v v' → gc_R v' (gs_no S 1) → Q (Sum.inr "java/lang/IllegalArgumentException") v') : gd_C g mX10_ring d 1 6 [zR 10 0, zI x] v Q := by
  refine c_X10_ring hd (k_needWithin (Nat.le_refl 9) hG hS (fun q1 q2 => ?_) (fun q v' f G => h0 q v' f G))
  rw [gd_rV_at]
  obtain ⟨n, -, n2, e⟩ := nu_rng (a := 0) (b := 9) (by omega) (by omega) q1 q2
  subst e
  have hOk := hs_O_ok S.1
  refine k_arrange (Nat.le_refl 4) hG.1 hS.1 (fun v1 f1 O1 => ?_)
  rw [gd_rV_at]
  obtain ⟨G1, C1⟩ := gc_tool hG hS f1 (by decide)
  refine k_find (Nat.le_refl 5) G1.1 hS.1 O1 hOk (fun v2 R f2 F2 m2 u2 => ?_) (fun v2 f2 nF => ?_)
  · rw [gd_rI_at]
    obtain ⟨G2, C2⟩ := gc_tool G1 hS f2 (by decide)
    have t := h1 n R v2 n2 rfl F2 (C1.tr C2) G2
    have hl : R.length ≤ 8 := F2.1.len hS.1.V
    have el : v2.1 8 0 1 = nI R.length := by rw [m2.1, List.length_reverse]
    unfold rv at t
    refine ⟨fun _ => ⟨fun e0 => ⟨fun e1 => ?_, fun e1 => ?_⟩, fun e0 => ?_⟩, fun z => absurd z (by decide)⟩
    · have e0 : ¬ n = 0 := fun q => e0 (by rw [q]; rfl)
      have e1 : ¬ n = 1 := fun q => e1 (by rw [q]; rfl)
      rw [if_neg e0, if_neg e1] at t
      rw [nu_I 2, pk_sub (by omega), el, nI_leI (by omega) (by omega)]
      refine ⟨fun q => ?_, fun q => ⟨nu_in (by omega) (by omega), ?_⟩⟩
      · rw [if_neg (by omega)] at t; exact t
      · rw [if_pos (by omega)] at t
        rw [nI_clamp (by omega), m2.2 (n - 2) (by rw [List.length_reverse]; omega)]; exact t
    · have e1 := nu_eq (k := 1) (by omega) (by omega) e1
      rw [if_neg (by omega), if_pos e1] at t
      rw [u2]; exact t
    · have e0 := nu_eq (k := 0) (by omega) (by omega) e0
      rw [if_pos e0] at t
      rw [el]; exact t
  · obtain ⟨G2, C2⟩ := gc_tool G1 hS f2 (by decide)
    exact ⟨fun z => absurd rfl z, fun _ => hN n v2 n2 rfl nF (C1.tr C2) G2⟩
theorem fg_V : ∀ k i j, fg k i j → fV k i j := fun k i j q => by
  rcases q with q | q | q
  · rw [q]; exact Or.inl (by decide)
  · rw [q]; exact Or.inl (by decide)
  · exact Or.inr ⟨q.1, by omega, by omega, by omega⟩
theorem rr_ringQ {x : Int32} (hd : 7 ≤ d) (hG : gr_R v S) (hS : gs_ok S) (h1 : ∀ n R v', n ≤ 9 → x = nI n → rg_F S.1 (hs_O S.1) R → fre v v' → v'.1 11 0 0 = 0 → gr_R v' S → Q (Sum.inl (some (zI (rv S n R)))) v') (hN : ∀ n v', n ≤ 9 → x = nI n → (∀ R, ¬ rg_F S.1 (hs_O S.1) R) → fre v v' → v'.1 11 0 0 = 0 → gr_R v' S → Q (Sum.inl (some (zI (-1)))) v') (h0 : ¬ (nI 0 ≤ x ∧ x ≤ nI 9) → ∀ v', fre v v' → v'.1 11 0 0 = 1 → gr_R v' (gs_no S 1) → Q (Sum.inl (some (zI 0))) v') : gd_C g mX11_ring d 0 0 [zR 11 0, zI x] v Q := by
  obtain ⟨b1, b2', b3⟩ := gr_begin hG
  refine c_X11_ring hd ?_
  rintro _ rfl
  refine r_lies ?_
  rw [gd_rI_at]
  refine r_fineIf (k := 1) (by decide) (by decide) b3 (fun hp => ?_) (fun hp => ?_)
  · have hp' := (nu_lies (x := x) (a := 0) (b := 9) (by omega) (by omega)).mp hp
    obtain ⟨n, -, n2, e⟩ := nu_rng (a := 0) (b := 9) (by omega) (by omega) hp'.1 hp'.2
    subst e
    have hOk := hs_O_ok S.1
    refine ⟨fun _ => r_orders (Nat.le_refl 5) b1.1 hS.1 (fun v1 f1 O1 => ?_), fun z => absurd z (by decide)⟩
    rw [gd_rV_at]
    obtain ⟨G1, F1, T1⟩ := gr_tool b1 f1 (by decide)
    have back : ∀ u, fr fg v1 u → gr_R u S ∧ fre v u ∧ u.1 11 0 0 = 0 := by
      intro u fu
      have n0 : ∀ k i j, ¬ k = 49 → ¬ k = 50 → ¬ (k = 11 ∧ j = 22) → ¬ fg k i j := fun k i j q1 q2 q3 q => by rcases q with q | q | q <;> omega
      refine ⟨gr_house (H' := S.1) G1 (fu.wk fg_V) (by rw [fu.J (fun j => n0 40 0 j (by decide) (by decide) (by omega))]; exact G1.1) (fun z hz => by rw [fu.I (fun j => n0 55 0 j (by decide) (by decide) (by omega))]; exact G1.2.2.2.2.2.2 z hz), (b2'.tr F1).tr (fV_re (fu.wk fg_V)), ?_⟩
      rw [(fu.1 11 0 0 (n0 11 0 0 (by decide) (by decide) (by omega))).1]; exact T1.trans b3
    refine r_finds (Nat.le_refl 6) G1.1 hS.1 O1 hOk (fun v2 R f2 F2 l2 m2 => ?_) (fun v2 f2 nF => ?_)
    · rw [gd_rI_at]
      obtain ⟨G2, C2, T2⟩ := back v2 f2
      have t := h1 n R v2 n2 rfl F2 C2 T2 G2
      have hl : R.length ≤ 8 := F2.1.len hS.1.V
      obtain ⟨c1, c2, c3, c4⟩ := rg_F_facts hS.1 F2
      unfold rv at t
      refine ⟨fun _ => ⟨fun e0 => ⟨fun e1 => ?_, fun e1 => ?_⟩, fun e0 => ?_⟩, fun z => absurd z (by decide)⟩
      · have e0 : ¬ n = 0 := fun q => e0 (by rw [q]; rfl)
        have e1 : ¬ n = 1 := fun q => e1 (by rw [q]; rfl)
        rw [if_neg e0, if_neg e1] at t
        rw [nu_I 2, pk_sub (by omega), l2, nI_leI (by omega) (by omega)]
        refine ⟨fun q => ?_, fun q => ⟨nu_in (by omega) (by omega), ?_⟩⟩
        · rw [if_neg (by omega)] at t; exact t
        · rw [if_pos (by omega)] at t
          rw [nI_clamp (by omega), m2 (n - 2) (by omega)]; exact t
      · have e1 := nu_eq (k := 1) (by omega) (by omega) e1
        rw [if_neg (by omega), if_pos e1] at t
        exact r_ringUnits (L := R.reverse) (Nat.le_refl 3) G2.1 hS.1 (by rw [List.length_reverse]; exact l2) (fun j hj => m2 j (by rw [List.length_reverse] at hj; exact hj)) c2 (fun s hs => (c4.1 s hs).1) c1 t
      · have e0 := nu_eq (k := 0) (by omega) (by omega) e0
        rw [if_pos e0] at t
        rw [l2]; exact t
    · obtain ⟨G2, C2, T2⟩ := back v2 f2
      exact ⟨fun z => absurd rfl z, fun _ => hN n v2 n2 rfl nF C2 T2 G2⟩
  · have hp' : ¬ (nI 0 ≤ x ∧ x ≤ nI 9) := fun q => hp ((nu_lies (x := x) (a := 0) (b := 9) (by omega) (by omega)).mpr q)
    obtain ⟨n1, n2, n3⟩ := gr_no (c := 1) (k := 1) (by decide) b1
    exact ⟨fun z => absurd rfl z, fun _ => h0 hp' _ (b2'.tr n2) n3 n1⟩
end CPC
