/-! WHO STANDS ON WHOM, the reference's side -/
theorem pt_u_app {b t x : Nat} : ∀ {A : List (Nat × Nat)}, (∀ q ∈ A, ¬ q.1 = b) → pt_u (A ++ [(b, t)]) x = if x = b then t else pt_u A x
  | [], _ => by
    show (if b = x then t else 0) = if x = b then t else 0
    by_cases e : x = b
    · rw [if_pos e, if_pos e.symm]
    · rw [if_neg e, if_neg (fun q => e q.symm)]
  | p :: A, h => by
    show (if p.1 = x then p.2 else pt_u (A ++ [(b, t)]) x) = if x = b then t else if p.1 = x then p.2 else pt_u A x
    rw [pt_u_app (fun q hq => h q (List.mem_cons_of_mem p hq))]
    by_cases e : x = b
    · subst e
      rw [if_neg (h p List.mem_cons_self), if_pos rfl, if_pos rfl]
    · rw [if_neg e, if_neg e]
theorem pt_one_filter {H : hs_T} {s : Nat} : ∀ (l : List Nat) (n : Nat) (f : Nat → Nat), l.Nodup → (pt_one H s l n f).1.map Prod.fst = l.filter (fun b => decide (0 < pt_u (pt_one H s l n f).1 b))
  | [], n, f, _ => rfl
  | a :: l, n, f, hn => by
    obtain ⟨h1, h2⟩ := List.nodup_cons.mp hn
    rw [pt_one_c]
    by_cases c : Hs H a 1 = Hs H s 0 ∧ 0 < n ∧ 0 < f a
    · rw [if_pos c]
      have ih := pt_one_filter (H := H) (s := s) l (n - min n (f a)) (fun x => if x = a then f a - min n (f a) else f x) h2
      generalize (pt_one H s l (n - min n (f a)) (fun x => if x = a then f a - min n (f a) else f x)) = r at ih ⊢
      show a :: r.1.map Prod.fst = (a :: l).filter (fun b => decide (0 < (if a = b then min n (f a) else pt_u r.1 b)))
      rw [List.filter_cons_of_pos (by rw [if_pos rfl]; exact decide_eq_true (by omega)), ih]
      congr 1
      apply List.filter_congr
      intro x hx
      rw [if_neg (fun e => h1 (by rw [e]; exact hx))]
    · rw [if_neg c]
      have ih := pt_one_filter (H := H) (s := s) l n f h2
      rw [List.filter_cons_of_neg, ih]
      rw [pt_u_no (fun p hp q => h1 (by rw [← q]; exact (pt_one_mem l n f p hp).1))]
      exact fun q => absurd (of_decide_eq_true q) (Nat.lt_irrefl 0)
theorem pt_u_le {M b : Nat} : ∀ {L : List (Nat × Nat)}, (∀ p ∈ L, p.2 ≤ M) → pt_u L b ≤ M
  | [], _ => Nat.zero_le M
  | p :: L, h => by
    show (if p.1 = b then p.2 else pt_u L b) ≤ M
    by_cases e : p.1 = b
    · rw [if_pos e]; exact h p List.mem_cons_self
    · rw [if_neg e]; exact pt_u_le (fun q hq => h q (List.mem_cons_of_mem p hq))
/-- parts that are laid -/
def rp_S (v : gd_D) (T : pt_T) (N : Nat) : Prop := ∀ s, s < N → v.1 53 0 s = nI (T.2.1 s) ∧ ∀ b, b < N → v.1 51 0 (24 * s + b) = nI (pt_u (T.1 s) b) ∧ v.1 52 0 (24 * s + b) = 0
theorem nu_24 (s b : Nat) : (24 : Int32) * nI s + nI b = nI (24 * s + b) := by rw [nu_I 24, pk_mul, nI_add]
theorem pt_put_0 {T : pt_T} {s : Nat} (h1 : T.1 s = []) (h2 : T.2.1 s = 0) : pt_put T s ([], 0, T.2.2) = T := by
  unfold pt_put
  have e1 : (fun x => if x = s then ([] : List (Nat × Nat)) else T.1 x) = T.1 := by
    funext x
    by_cases e : x = s
    · rw [if_pos e, e, h1]
    · rw [if_neg e]
  have e2 : (fun x => if x = s then 0 else T.2.1 x) = T.2.1 := by
    funext x
    by_cases e : x = s
    · rw [if_pos e, e, h2]
    · rw [if_neg e]
  show (_, _, T.2.2) = T
  rw [e1, e2]
section RP
variable {g : ab_E} {d : Nat} {v : gd_D} {Q : ab_O → gd_D → Prop} {H : hs_T}
theorem rm_O.k {v' : gd_D} {ks : List Nat} {O : List Nat} (hO : rm_O v O) (hf : fr (fx ks) v v') (hk : decide (47 ∈ ks) = false) : rm_O v' O := fun j hj => by rw [hf.I (fun _ => fx_n hk)]; exact hO j hj
theorem r_laysParts {O : List Nat} (hd : 4 ≤ d) (hR : rm_R (v.2.1 40 0) H) (hW : hs_W H) (hO : rm_O v O) (hOl : O.length = Hh H 1) (hOm : ∀ s ∈ O, s < Hh H 1) (hOn : O.Nodup) (hOa : ∀ s, s < Hh H 1 → s ∈ O) (h : ∀ v', fr (fx [51, 52, 53, 54]) v v' → rp_S v' (pt_all H O) (Hh H 1) → Q (Sum.inl none) v') : gd_C g mX11_laysParts d 0 0 [zR 11 0] v Q := by
  have h24 := hW.2.1
  have h8 := hW.1
  have hRk : ∀ u : gd_D, fr (fx [51, 52, 53, 54]) v u → rm_R (u.2.1 40 0) H := fun u hf => by rw [hf.J (fun _ => fx_n rfl)]; exact hR
  refine c_X11_laysParts (Nat.zero_le _) ?_
  -- the third loop
  have loop3 : ∀ (l : List Nat) (i : Nat) (T : pt_T) (u : gd_D), O.drop i = l → i ≤ O.length → l.Nodup → pt_go H O l T = pt_all H O → (∀ s ∈ l, T.1 s = [] ∧ T.2.1 s = 0 ∧ u.1 53 0 s = nI (if hq H s then Hs H s 5 else 0)) → (∀ s, s < Hh H 1 → ¬ s ∈ l → u.1 53 0 s = nI (T.2.1 s)) → (∀ b, b < Hh H 1 → T.2.2 b ≤ 1000 ∧ u.1 54 0 b = nI (T.2.2 b)) → fr (fx [51, 52, 53, 54]) v u → (∀ s b, s < Hh H 1 → b < Hh H 1 → u.1 51 0 (24 * s + b) = nI (pt_u (T.1 s) b) ∧ u.1 52 0 (24 * s + b) = 0) → gd_G g mX11_laysParts d 0 0 83 [(0, zR 11 0), (1, zI (nI i))] [] u Q := by
    intro l
    induction l with
    | nil =>
      intro i T u hl hi hn ego hun hpr hfree hfr hst
      have ei := drop_end hl hi
      have ego' : T = pt_all H O := ego
      subst ego'
      refine w_X11_laysParts_83 (by omega) (r_sales (hRk u hfr) (pk_le (Hh H 1) i (fun _ => h u hfr (fun s hs => ⟨hpr s hs (fun q => by cases q), fun b hb => hst s b hs hb⟩)) (fun q => absurd q (by omega)) rfl rfl (by omega) (by omega)))
    | cons s l ih =>
      intro i T u hl hi hn ego hun hpr hfree hfr hst
      obtain ⟨hi2, hs0, hl2, hmem⟩ := drop_at hl
      obtain ⟨hnot, hn2⟩ := List.nodup_cons.mp hn
      have hs : s < Hh H 1 := hOm s hmem
      obtain ⟨t1, t2, t3⟩ := hun s List.mem_cons_self
      have hsS := hW.2.2.2.2.2.2.2.2.1 s hs
      have hs5 := hs_S5 hsS
      have hs2 := hsS.2.2.2.1
      have n0le : (if hq H s then Hs H s 5 else 0) ≤ 1000 := by split <;> omega
      have ego2 : pt_go H O l (pt_put T s (pt_one H s O (if hq H s then Hs H s 5 else 0) T.2.2)) = pt_all H O := by
        rw [pt_go_c] at ego
        cases hc : hq H s with
        | true => rw [hc] at ego; exact ego
        | false =>
          rw [hc] at ego
          rw [if_neg Bool.false_ne_true, pt_one_0, pt_put_0 t1 t2]
          exact ego
      generalize (if hq H s then Hs H s 5 else 0) = n0 at t3 n0le ego2
      have inner : ∀ (m : List Nat) (j n : Nat) (F : Nat → Nat) (A : List (Nat × Nat)) (z : gd_D), O.drop j = m → j ≤ O.length → m.Nodup → n ≤ 1000 → pt_one H s O n0 T.2.2 = (A ++ (pt_one H s m n F).1, (pt_one H s m n F).2) → (∀ q ∈ A, ¬ q.1 ∈ m) → z.1 53 0 s = nI n → (∀ x, ¬ x = s → z.1 53 0 x = u.1 53 0 x) → (∀ b, b < Hh H 1 → F b ≤ 1000 ∧ z.1 54 0 b = nI (F b)) → fr (fx [51, 52, 53, 54]) v z → (∀ x b, x < Hh H 1 → b < Hh H 1 → z.1 51 0 (24 * x + b) = nI (if x = s then pt_u A b else pt_u (T.1 x) b) ∧ z.1 52 0 (24 * x + b) = 0) → gd_G g mX11_laysParts d 0 0 100 [(0, zR 11 0), (1, zI (nI i)), (2, zI (nI s)), (3, zI (nI j))] [] z Q := by
        intro m
        induction m with
        | nil =>
          intro j n F A z hm hj hmn hn1 er hA z53 z53' z54 zfr zst
          have ej := drop_end hm hj
          refine w_X11_laysParts_100 (by omega) (r_sales (hRk z zfr) (pk_le (Hh H 1) j (fun _ => ?_) (fun q => absurd q (by omega)) rfl rfl (by omega) (by omega)))
          have er2 : pt_one H s O n0 T.2.2 = (A, n, F) := by
            rw [er]; show (A ++ [], n, F) = _; rw [List.append_nil]
          rw [er2] at ego2
          rw [nu_1]
          refine ih (i + 1) (pt_put T s (A, n, F)) z hl2 (by omega) hn2 ego2 (fun x hx => ?_) (fun x hx hxl => ?_) z54 zfr (fun x b hx hb => ?_)
          · have hxs : ¬ x = s := fun e => hnot (by rw [← e]; exact hx)
            obtain ⟨q1, q2, q3⟩ := hun x (List.mem_cons_of_mem s hx)
            refine ⟨(if_neg hxs).trans q1, (if_neg hxs).trans q2, ?_⟩
            rw [z53' x hxs]; exact q3
          · show z.1 53 0 x = nI (if x = s then n else T.2.1 x)
            by_cases e : x = s
            · rw [if_pos e, e]; exact z53
            · rw [if_neg e, z53' x e]
              exact hpr x hx (fun q => by rcases List.mem_cons.mp q with q | q; exact e q; exact hxl q)
          · show z.1 51 0 (24 * x + b) = nI (pt_u (if x = s then A else T.1 x) b) ∧ _
            have := zst x b hx hb
            by_cases e : x = s
            · rw [if_pos e] at this ⊢; exact this
            · rw [if_neg e] at this ⊢; exact this
        | cons b m ihm =>
          intro j n F A z hm hj hmn hn1 er hA z53 z53' z54 zfr zst
          obtain ⟨hj2, hb0, hm2, hmem2⟩ := drop_at hm
          obtain ⟨hnotb, hmn2⟩ := List.nodup_cons.mp hmn
          have hb : b < Hh H 1 := hOm b hmem2
          have hbS := hW.2.2.2.2.2.2.2.2.1 b hb
          have eO : z.1 47 0 j = nI b := by rw [(hO.k zfr rfl) j hj2, hb0]
          have hF := z54 b hb
          have hRz := hRk z zfr
          have hA' : ∀ q ∈ A, ¬ q.1 ∈ m := fun q hq r => hA q hq (List.mem_cons_of_mem b r)
          have bs := hbS.2.1
          have ss := hsS.1
          refine w_X11_laysParts_100 (by omega) (r_sales hRz (pk_le (Hh H 1) j (fun q => absurd q (by omega)) (fun _ => ⟨nu_in (by omega) (by omega), ?_⟩) rfl rfl (by omega) (by omega)))
          rw [nI_clamp (by omega), eO]
          refine r_of (w := 1) hRz hW hb (by decide) (r_of (w := 0) hRz hW hs (by decide) ?_)
          rw [gd_rI_at, nI_eq (by omega) (by omega)]
          refine ⟨fun c => ⟨nu_in (by omega) (by omega), nu_in (by omega) (by omega), ?_⟩, fun c => ?_⟩
          · rintro _ rfl
            rw [nI_clamp (by omega), nI_clamp (by omega), z53, hF.2]
            refine c_minI ?_
            rw [nu_min (by omega) (by omega)]
            rintro _ rfl
            rw [nu_24, nI_clamp (n := 24 * s + b) (by omega)]
            refine ⟨nu_in (by omega) (by omega), nu_in (by omega) (by omega), ?_⟩
            rintro _ rfl
            refine ⟨nu_in (by omega) (by omega), nu_in (by omega) (by omega), ?_⟩
            rintro _ rfl
            refine ⟨nu_in (by omega) (by omega), ?_⟩
            rintro _ rfl
            refine ⟨nu_in (by omega) (by omega), ?_⟩
            rintro _ rfl
            have st0 : z.1 51 0 (24 * s + b) = nI (pt_u A b) := by have := (zst s b hs hb).1; rw [if_pos rfl] at this; exact this
            have uA : pt_u A b = 0 := pt_u_no (fun q hq e => hA q hq (by rw [e]; exact List.mem_cons_self))
            rw [st0, uA, nI_add, Nat.zero_add, nu_1]
            rw [show (gd_sI z 51 0 (24 * s + b) (nI (min n (F b)))).1 53 0 s = nI n from by rw [sI_ne (by omega)]; exact z53, nu_sub (Nat.min_le_left _ _)]
            rw [show (gd_sI (gd_sI z 51 0 (24 * s + b) (nI (min n (F b)))) 53 0 s (nI (n - min n (F b)))).1 54 0 b = nI (F b) from by rw [sI_ne (by omega), sI_ne (by omega)]; exact hF.2, nu_sub (Nat.min_le_right _ _)]
            have zfr2 : fr (fx [51, 52, 53, 54]) v (gd_sI (gd_sI (gd_sI z 51 0 (24 * s + b) (nI (min n (F b)))) 53 0 s (nI (n - min n (F b)))) 54 0 b (nI (F b - min n (F b)))) := ((zfr.tr (fr.sI (fx_y rfl))).tr (fr.sI (fx_y rfl))).tr (fr.sI (fx_y rfl))
            have g53 : (gd_sI (gd_sI (gd_sI z 51 0 (24 * s + b) (nI (min n (F b)))) 53 0 s (nI (n - min n (F b)))) 54 0 b (nI (F b - min n (F b)))).1 53 0 s = nI (n - min n (F b)) := by rw [sI_ne (by omega), sI_at]
            have g53' : ∀ x, ¬ x = s → (gd_sI (gd_sI (gd_sI z 51 0 (24 * s + b) (nI (min n (F b)))) 53 0 s (nI (n - min n (F b)))) 54 0 b (nI (F b - min n (F b)))).1 53 0 x = u.1 53 0 x := fun x hx => by rw [sI_ne (by omega), sI_ne (by omega), sI_ne (by omega)]; exact z53' x hx
            have g51 : ∀ x y, x < Hh H 1 → y < Hh H 1 → (gd_sI (gd_sI (gd_sI z 51 0 (24 * s + b) (nI (min n (F b)))) 53 0 s (nI (n - min n (F b)))) 54 0 b (nI (F b - min n (F b)))).1 51 0 (24 * x + y) = nI (if x = s then (if y = b then min n (F b) else pt_u A y) else pt_u (T.1 x) y) ∧ (gd_sI (gd_sI (gd_sI z 51 0 (24 * s + b) (nI (min n (F b)))) 53 0 s (nI (n - min n (F b)))) 54 0 b (nI (F b - min n (F b)))).1 52 0 (24 * x + y) = 0 := by
              intro x y hx hy
              have := zst x y hx hy
              refine ⟨?_, by rw [sI_ne (by omega), sI_ne (by omega), sI_ne (by omega)]; exact this.2⟩
              rw [sI_ne (by omega), sI_ne (by omega)]
              by_cases e : x = s ∧ y = b
              · obtain ⟨rfl, rfl⟩ := e
                rw [sI_at, if_pos rfl, if_pos rfl]
              · rw [sI_ne (by omega), this.1]
                by_cases e1 : x = s
                · rw [if_pos e1, if_pos e1, if_neg (fun q => e ⟨e1, q⟩)]
                · rw [if_neg e1, if_neg e1]
            by_cases c2 : 0 < n ∧ 0 < F b
            · rw [pt_one_c, if_pos (show Hs H b 1 = Hs H s 0 ∧ 0 < n ∧ 0 < F b from ⟨c, c2⟩)] at er
              refine ihm (j + 1) (n - min n (F b)) (fun x => if x = b then F b - min n (F b) else F x) (A ++ [(b, min n (F b))]) _ hm2 (by omega) hmn2 (by omega) ?_ ?_ g53 g53' ?_ zfr2 ?_
              · rw [er, List.append_assoc]; rfl
              · intro q hq
                rcases List.mem_append.mp hq with q1 | q1
                · exact hA' q q1
                · rw [List.mem_singleton.mp q1]; exact hnotb
              · intro x hx
                by_cases e : x = b
                · subst e
                  rw [if_pos rfl, sI_at]; exact ⟨by omega, rfl⟩
                · rw [if_neg e, sI_ne (by omega), sI_ne (by omega), sI_ne (by omega)]; exact z54 x hx
              · intro x y hx hy
                rw [pt_u_app (fun q hq e => hA q hq (by rw [e]; exact List.mem_cons_self))]
                exact g51 x y hx hy
            · have m0 : min n (F b) = 0 := by omega
              rw [pt_one_c, if_neg (fun q => c2 q.2)] at er
              rw [m0] at g53 g53' g51 zfr2 ⊢
              refine ihm (j + 1) n F A _ hm2 (by omega) hmn2 hn1 er hA' g53 g53' ?_ zfr2 ?_
              · intro x hx
                by_cases e : x = b
                · subst e
                  rw [sI_at]; exact ⟨hF.1, rfl⟩
                · rw [sI_ne (by omega), sI_ne (by omega), sI_ne (by omega)]; exact z54 x hx
              · intro x y hx hy
                have := g51 x y hx hy
                by_cases e : x = s
                · rw [if_pos e] at this ⊢
                  by_cases e2 : y = b
                  · rw [if_pos e2] at this; rw [e2, uA]; rw [e2] at this; exact this
                  · rw [if_neg e2] at this; exact this
                · rw [if_neg e] at this ⊢; exact this
          · rw [pt_one_c, if_neg (fun q => c q.1)] at er
            rw [nu_1]
            exact ihm (j + 1) n F A z hm2 (by omega) hmn2 hn1 er hA' z53 z53' z54 zfr zst
      have eO : u.1 47 0 i = nI s := by rw [(hO.k hfr rfl) i hi2, hs0]
      refine w_X11_laysParts_83 (by omega) (r_sales (hRk u hfr) (pk_le (Hh H 1) i (fun q => absurd q (by omega)) (fun _ => ⟨nu_in (by omega) (by omega), ?_⟩) rfl rfl (by omega) (by omega)))
      rw [nI_clamp (by omega), eO]
      refine inner O 0 n0 T.2.2 [] u rfl (Nat.zero_le _) hOn n0le rfl (fun q hq => by cases hq) t3 (fun x _ => rfl) hfree hfr (fun x b hx hb => ?_)
      have := hst x b hx hb
      by_cases e : x = s
      · rw [if_pos e]; rw [e, t1] at this; rw [e]; exact this
      · rw [if_neg e]; exact this
  -- the second loop
  have loop2 : ∀ k i (u : gd_D), i + k = Hh H 1 → fr (fx [51, 52, 53, 54]) v u → (∀ j, j < 576 → u.1 51 0 j = 0 ∧ u.1 52 0 j = 0) → (∀ b, b < i → u.1 53 0 b = nI ((pt_0 H).2.2 b) ∧ u.1 54 0 b = nI ((pt_0 H).2.2 b)) → gd_G g mX11_laysParts d 0 0 31 [(0, zR 11 0), (1, zI (nI i))] [] u Q := by
    intro k
    induction k with
    | zero =>
      intro i u hi hfr hz hb
      have e : i = Hh H 1 := by omega
      subst e
      refine w_X11_laysParts_31 (by omega) (r_sales (hRk u hfr) (pk_le (Hh H 1) (Hh H 1) (fun _ => ?_) (fun q => absurd q (Nat.lt_irrefl _)) rfl rfl (by omega) (by omega)))
      refine loop3 O 0 (pt_0 H) u rfl (Nat.zero_le _) hOn rfl (fun s hs => ⟨rfl, rfl, (hb s (hOm s hs)).1⟩) (fun s hs hn => ?_) (fun b hb2 => ⟨?_, (hb b hb2).2⟩) hfr (fun s b hs hb2 => ⟨(hz _ (by omega)).1, (hz _ (by omega)).2⟩)
      · exact absurd (hOa s hs) hn
      · have := hs_S5 (hW.2.2.2.2.2.2.2.2.1 b hb2)
        have := (hW.2.2.2.2.2.2.2.2.1 b hb2).2.2.2.1
        show (if hq H b then Hs H b 5 else 0) ≤ 1000
        split <;> omega
    | succ k ih =>
      intro i u hi hfr hz hb
      have hlt : i < Hh H 1 := by omega
      have hRu := hRk u hfr
      have fin : ∀ x : Nat, x = (pt_0 H).2.2 i → wp_X11_laysParts_62 g d (nI i) (nI i) (nI x) u Q := by
        rintro _ rfl
        unfold wp_X11_laysParts_62
        rw [nI_clamp (by omega), nu_1]
        refine ⟨nu_in (by omega) (by omega), ?_⟩
        rintro _ rfl
        refine ⟨nu_in (by omega) (by omega), nu_in (by omega) (by omega), ?_⟩
        rintro _ rfl
        rw [sI_at]
        refine ih (i + 1) _ (by omega) ((hfr.tr (fr.sI (fx_y rfl))).tr (fr.sI (fx_y rfl))) (fun j hj => ?_) (fun b hb2 => ?_)
        · rw [sI_ne (by omega), sI_ne (by omega), sI_ne (by omega), sI_ne (by omega)]; exact hz j hj
        · by_cases e : b = i
          · subst e
            rw [sI_at, sI_ne (by omega), sI_at]; exact ⟨rfl, rfl⟩
          · rw [sI_ne (by omega), sI_ne (by omega), sI_ne (by omega), sI_ne (by omega)]; exact hb b (by omega)
      refine w_X11_laysParts_31 (by omega) (r_sales hRu (pk_le (Hh H 1) i (fun q => absurd q (by omega)) (fun _ => r_isAsked (Nat.le_refl 3) hRu hW hlt ⟨fun hc => fin 0 ?_, fun hc => r_of (w := 5) hRu hW hlt (by decide) (fin _ ?_)⟩) rfl rfl (by omega) (by omega)))
      · show 0 = if hq H i then Hs H i 5 else 0
        rw [b2_0 hc]; rfl
      · show Hs H i 5 = if hq H i then Hs H i 5 else 0
        rw [b2_1 hc]; rfl
  -- the first loop
  have loop1 : ∀ k i (u : gd_D), i + k = 576 → fr (fx [51, 52, 53, 54]) v u → (∀ j, j < i → u.1 51 0 j = 0 ∧ u.1 52 0 j = 0) → gd_G g mX11_laysParts d 0 0 2 [(0, zR 11 0), (1, zI (nI i))] [] u Q := by
    intro k
    induction k with
    | zero =>
      intro i u hi hfr hz
      have e : i = 576 := by omega
      subst e
      exact w_X11_laysParts_2 (by omega) (pk_le 576 576 (fun _ => loop2 (Hh H 1) 0 u (by omega) hfr hz (fun b hb => absurd hb (Nat.not_lt_zero b))) (fun q => absurd q (by omega)))
    | succ k ih =>
      intro i u hi hfr hz
      refine w_X11_laysParts_2 (by omega) (pk_le 576 i (fun q => absurd q (by omega)) (fun _ => ⟨nu_in (by omega) (by omega), ?_⟩))
      rintro _ rfl
      refine ⟨nu_in (by omega) (by omega), ?_⟩
      rintro _ rfl
      rw [nI_clamp (by omega), nu_1]
      refine ih (i + 1) _ (by omega) ((hfr.tr (fr.sI (fx_y rfl))).tr (fr.sI (fx_y rfl))) (fun j hj => ?_)
      by_cases e : j = i
      · subst e
        rw [sI_at, sI_ne (by omega), sI_at]; exact ⟨rfl, rfl⟩
      · rw [sI_ne (by omega), sI_ne (by omega), sI_ne (by omega), sI_ne (by omega)]; exact hz j (by omega)
  exact loop1 576 0 v (by omega) fr.rf (fun j hj => absurd hj (Nat.not_lt_zero j))
end RP
