/-! every call leaves a state as it must be -/
section SIV
variable {S : AS}
theorem I_add {es : List Ev} (hI : SInv S) (h8 : S.1.length < 8) (hw : whl es) : SInv (S.1 ++ [es], S.2) := by
  refine ⟨by show (S.1 ++ [es]).length ≤ 8; rw [List.length_append, List.length_singleton]; omega, fun f hf => ?_, hI.2.2⟩
  show whl ((S.1 ++ [es]).getD f [])
  have hf' : f < S.1.length + 1 := by simpa using hf
  by_cases c : f = S.1.length
  · subst c
    rw [getD_app_e]
    exact hw
  · rw [getD_app_l (by omega)]
    exact hI.2.1 f (by omega)
theorem I_set {es : List Ev} {q : Nat} (hI : SInv S) (hq : q < S.1.length) (hw : whl es) : SInv (S.1.set q es, S.2) := by
  refine ⟨by show (S.1.set q es).length ≤ 8; rw [List.length_set]; exact hI.1, fun f hf => ?_, hI.2.2⟩
  show whl ((S.1.set q es).getD f [])
  have hf' : f < S.1.length := by simpa using hf
  rw [getD_set hq]
  by_cases c : f = q
  · rw [if_pos c]
    exact hw
  · rw [if_neg c]
    exact hI.2.1 f hf'
theorem I_tape {tp : List Nat} {l : Nat} (hI : SInv S) (h1 : tp.length ≤ 120) (h2 : ∀ i, i < tp.length → tp.getD i 0 < 256) (h3 : l ≤ 4) : SInv (S.1, tp, l, S.2.2.2) := ⟨hI.1, hI.2.1, h1, h2, h3, hI.2.2.2.2.2⟩
theorem I_drop (hI : SInv S) : SInv (aDrop S).2 := by
  unfold aDrop
  split
  · exact hI
  · refine ⟨by show (S.1.take (S.1.length - 1)).length ≤ 8; rw [List.length_take]; have := hI.1; omega, fun f hf => ?_, hI.2.2⟩
    have hf' : f < (S.1.take (S.1.length - 1)).length := hf
    rw [List.length_take] at hf'
    show whl ((S.1.take (S.1.length - 1)).getD f [])
    rw [getD_set_l (x := []) (by omega) (by omega)]
    exact hI.2.1 f (by omega)
theorem I_end {n : Int32} (hI : SInv S) : SInv (aEnd n S).2 := by
  unfold aEnd
  split
  · refine I_tape hI (by rw [List.length_take]; have := hI.2.2.1; omega) (fun i hi => ?_) hI.2.2.2.2.1
    rw [List.length_take] at hi
    by_cases c : n.toNatClampNeg ≤ S.2.1.length
    · rw [getD_set_l (x := 0) (by omega) c]
      exact hI.2.2.2.1 i (by omega)
    · rw [List.take_of_length_le (by omega)]
      exact hI.2.2.2.1 i (by omega)
  · exact hI
theorem I_feed {v : Int64} (hI : SInv S) : SInv (aFeed v S).2 := by
  unfold aFeed
  split
  · exact hI
  · have hl : (fBs v 8).length = 8 := by unfold fBs; simp
    refine I_tape hI (by rw [List.length_append, hl]; omega) (fun i hi => ?_) hI.2.2.2.2.1
    rw [List.length_append, hl] at hi
    by_cases c : i < S.2.1.length
    · rw [getD_app_l c]
      exact hI.2.2.2.1 i c
    · rw [List.getD_eq_getElem?_getD, List.getElem?_append_right (by omega)]
      unfold fBs
      rw [List.getElem?_map, List.getElem?_range (by omega)]
      exact (fB_eq v _).2
theorem I_copy {f : Int32} (hI : SInv S) : SInv (aCopy f S).2 := by
  unfold aCopy
  rcases isF_c S f hI with c | ⟨q, hq, rfl, c, hfr⟩
  · rw [if_neg c]
    exact hI
  · rw [if_pos c]
    by_cases c8 : S.1.length = 8
    · rw [if_pos c8]
      exact hI
    · rw [if_neg c8, hfr]
      exact I_add hI (by have := hI.1; omega) (hI.2.1 q hq)
theorem I_sh {k : Nat} {sh : Sh} (hI : SInv S) (h1 : sh.1 = -4 ∨ sh.1 = 0 ∨ sh.1 = 1 ∨ sh.1 = 2) (h2 : sh.2.1 ≤ 62) : SInv (S.1, S.2.1, S.2.2.1, fun j => if j = k then sh else S.2.2.2 j) := by
  refine ⟨hI.1, hI.2.1, hI.2.2.1, hI.2.2.2.1, hI.2.2.2.2.1, fun j hj => ?_⟩
  show ((if j = k then sh else S.2.2.2 j).1 = -4 ∨ (if j = k then sh else S.2.2.2 j).1 = 0 ∨ (if j = k then sh else S.2.2.2 j).1 = 1 ∨ (if j = k then sh else S.2.2.2 j).1 = 2) ∧ (if j = k then sh else S.2.2.2 j).2.1 ≤ 62
  by_cases c : j = k
  · rw [if_pos c]
    exact ⟨h1, h2⟩
  · rw [if_neg c]
    exact hI.2.2.2.2.2 j hj
theorem I_sheet {k l n : Int32} (hI : SInv S) : SInv (aSheet k l n S).2 := by
  unfold aSheet
  by_cases c : (0 ≤ k ∧ k ≤ 3) ∧ (0 ≤ l ∧ l ≤ 2) ∧ n ≤ 62
  case neg => rw [if_neg c]; exact hI
  rw [if_pos c]
  by_cases c0 : n < 0
  · rw [if_pos c0]
    exact hI
  rw [if_neg c0]
  refine I_sh hI ?_ ?_
  · obtain ⟨t, ht, rfl⟩ := arg_le l 2 (by decide) c.2.1
    show nI t = -4 ∨ nI t = 0 ∨ nI t = 1 ∨ nI t = 2
    rcases (by omega : t = 0 ∨ t = 1 ∨ t = 2) with rfl | rfl | rfl
    · exact Or.inr (Or.inl rfl)
    · exact Or.inr (Or.inr (Or.inl rfl))
    · exact Or.inr (Or.inr (Or.inr rfl))
  · obtain ⟨t, ht, rfl⟩ := arg_le n 62 (by decide) ⟨by rw [← Int32.not_lt]; exact c0, c.2.2⟩
    show (nI t).toNatClampNeg ≤ 62
    rw [nI_clamp (by omega)]
    exact ht
theorem I_lay {k i x : Int32} (hI : SInv S) : SInv (aLay k i x S).2 := by
  unfold aLay
  by_cases c : 0 ≤ k ∧ k ≤ 3
  case neg => rw [if_neg c]; exact hI
  rw [if_pos c]
  obtain ⟨t, ht, rfl⟩ := arg_le k 3 (by decide) c
  have e : (nI t).toNatClampNeg = t := nI_clamp (by omega)
  rw [e]
  by_cases c1 : (S.2.2.2 t).1 = -4
  · rw [if_pos c1]
    exact hI
  rw [if_neg c1]
  by_cases c2 : 0 ≤ i ∧ i < nI (S.2.2.2 t).2.1
  · rw [if_pos c2]
    have := hI.2.2.2.2.2 t (by omega)
    exact I_sh (sh := ((S.2.2.2 t).1, (S.2.2.2 t).2.1, _)) hI this.1 this.2
  · rw [if_neg c2]
    exact hI
theorem draw_len {c : Nat → Int32} {sz : Nat} {f : Int} : ∀ (n i : Nat) (es ds : List Ev), drawL c sz f n i es = .inr ds → ds.length = es.length + n
  | 0, i, es, ds, e => by
    rw [drawL_zero] at e
    cases e
    rfl
  | n + 1, i, es, ds, e => by
    rw [drawL_succ] at e
    by_cases c1 : 0 ≤ f + 2 * (i : Int) ∧ f + 2 * (i : Int) + 1 < (sz : Int)
    · rw [if_pos c1] at e
      by_cases c2 : okAt es (c (f + 2 * (i : Int)).toNat) (c ((f + 2 * (i : Int)).toNat + 1))
      · rw [if_pos c2] at e
        have := draw_len n (i + 1) _ ds e
        rw [List.length_append, List.length_singleton] at this
        omega
      · rw [if_neg c2] at e
        cases e
    · rw [if_neg c1] at e
      cases e
theorem I_draw {k l f n : Int32} (hI : SInv S) : SInv (aDraw k l f n S).2 := by
  unfold aDraw
  by_cases c : (0 ≤ k ∧ k ≤ 3) ∧ (0 ≤ l ∧ l ≤ 2) ∧ (1 ≤ n ∧ n ≤ 30)
  case neg => rw [if_neg c]; exact hI
  rw [if_pos c]
  by_cases c1 : (S.2.2.2 k.toNatClampNeg).1 = -4
  · rw [if_pos c1]
    exact hI
  rw [if_neg c1]
  by_cases c2 : (S.2.2.2 k.toNatClampNeg).1 = l
  case neg => rw [if_neg c2]; exact hI
  rw [if_pos c2]
  cases e : drawL (S.2.2.2 k.toNatClampNeg).2.2 (S.2.2.2 k.toNatClampNeg).2.1 f.toInt n.toNatClampNeg 0 [] with
  | inl r => exact hI
  | inr es =>
    show SInv (if 0 < ahL es then _ else if S.1.length = 8 then _ else _ : Int32 × AS).2
    by_cases c3 : 0 < ahL es
    · rw [if_pos c3]
      exact hI
    rw [if_neg c3]
    by_cases c8 : S.1.length = 8
    · rw [if_pos c8]
      exact hI
    rw [if_neg c8]
    have hl := draw_len _ _ _ _ e
    have n1 : 1 ≤ n.toNatClampNeg := by
      obtain ⟨z, z1, z2, rfl⟩ := z_of n
      have := c.2.2.1
      simp (disch := omega) only [z_nI, z_lit, z_neg, z_add, z_sub, z_mul, z_lt, z_le, z_eq, z_in, z_cl] at this
      simp (disch := omega) only [z_nI, z_lit, z_neg, z_add, z_sub, z_mul, z_lt, z_le, z_eq, z_in, z_cl]
      omega
    refine I_add hI (by have := hI.1; omega) ⟨draw_vld _ _ _ _ vld_nil e, fun z => ?_, by omega⟩
    rw [z] at hl
    simp at hl
    omega
theorem prs_whl {T : List Nat} : ∀ (n p0 : Nat) (es ds : List Ev), vld es → prs T n p0 es = .inr ds → whl ds
  | 0, p0, es, ds, hv, e => by cases e
  | n + 1, p0, es, ds, hv, e => by
    rw [prs_succ] at e
    unfold prsB at e
    by_cases c0 : (tokR T (skp T p0)).1 = 0
    · rw [if_pos c0] at e
      by_cases c : es ≠ [] ∧ ahL es = 0
      · rw [if_pos c] at e
        cases e
        exact ⟨hv, c.1, c.2⟩
      · rw [if_neg c] at e
        cases e
    rw [if_neg c0] at e
    by_cases c1 : (tokR T (skp T p0)).1 = 1
    · rw [if_pos c1] at e
      by_cases c2 : roomL es (tokR T (skp T p0)).2.1
      case neg => rw [if_neg c2] at e; cases e
      rw [if_pos c2] at e
      by_cases c3 : (tokR T (skp T (tokR T (skp T p0)).2.2)).1 = 2
      · rw [if_pos c3] at e
        by_cases c4 : okEv es (tokR T (skp T p0)).2.1 (tokR T (skp T (tokR T (skp T p0)).2.2)).2.1
        · rw [if_pos c4] at e
          exact prs_whl n _ _ ds (vld_snoc hv c4) e
        · rw [if_neg c4] at e
          cases e
      · rw [if_neg c3] at e
        split at e <;> cases e
    · rw [if_neg c1] at e
      split at e <;> cases e
theorem prs_flt {T : List Nat} : ∀ (n p0 : Nat) (es : List Ev) (q : Nat × Nat), prs T n p0 es = .inl q → q.1 ≤ 4
  | 0, p0, es, q, e => by cases e; exact Nat.le_refl _
  | n + 1, p0, es, q, e => by
    rw [prs_succ] at e
    unfold prsB at e
    by_cases c0 : (tokR T (skp T p0)).1 = 0
    · rw [if_pos c0] at e
      split at e
      · cases e
      · cases e
        show 2 ≤ 4
        omega
    rw [if_neg c0] at e
    by_cases c1 : (tokR T (skp T p0)).1 = 1
    · rw [if_pos c1] at e
      by_cases c2 : roomL es (tokR T (skp T p0)).2.1
      case neg => rw [if_neg c2] at e; cases e; show 4 ≤ 4; omega
      rw [if_pos c2] at e
      by_cases c3 : (tokR T (skp T (tokR T (skp T p0)).2.2)).1 = 2
      · rw [if_pos c3] at e
        by_cases c4 : okEv es (tokR T (skp T p0)).2.1 (tokR T (skp T (tokR T (skp T p0)).2.2)).2.1
        · rw [if_pos c4] at e
          exact prs_flt n _ _ q e
        · rw [if_neg c4] at e
          cases e
          show 3 ≤ 4
          omega
      · rw [if_neg c3] at e
        split at e
        · cases e; show 1 ≤ 4; omega
        · cases e; show 2 ≤ 4; omega
    · rw [if_neg c1] at e
      split at e
      · cases e; show 1 ≤ 4; omega
      · cases e; show 2 ≤ 4; omega
theorem I_front (hI : SInv S) : SInv (aFront S).2 := by
  unfold aFront
  by_cases c8 : S.1.length = 8
  · rw [if_pos c8]
    exact hI
  rw [if_neg c8]
  cases e : prs S.2.1 31 0 [] with
  | inl q => exact I_tape (tp := []) hI (Nat.zero_le _) (fun i hi => absurd hi (Nat.not_lt_zero i)) (prs_flt _ _ _ q e)
  | inr es =>
    have h1 : SInv (S.1 ++ [es], S.2) := I_add hI (by have := hI.1; omega) (prs_whl _ _ _ es vld_nil e)
    exact I_tape (S := (S.1 ++ [es], S.2)) (tp := []) h1 (Nat.zero_le _) (fun i hi => absurd hi (Nat.not_lt_zero i)) (Nat.zero_le _)
theorem I_repl {q i : Nat} {pl : Option (Nat × List Ev)} (hI : SInv S) (hq : q < S.1.length) (hg : ∀ g ps, pl = some (g, ps) → gdP (S.1.getD q []) i g ps) : SInv (aRepl q i pl S).2 := by
  unfold aRepl
  cases pl with
  | none => exact hI
  | some r =>
    show SInv (@ite _ (vld (repl (S.1.getD q []) i r.1 r.2)) (Classical.propDecidable _) _ _ : Int32 × AS).2
    by_cases c : vld (repl (S.1.getD q []) i r.1 r.2)
    · rw [if_pos c]
      exact I_set hI hq (repl_whl (hI.2.1 q hq) (hg r.1 r.2 rfl) c)
    · rw [if_neg c]
      exact hI
theorem I_move {f k i : Int32} (hI : SInv S) : SInv (aMove f k i S).2 := by
  unfold aMove
  by_cases c : isF S f ∧ (0 ≤ i ∧ i < nI (fr S f).length) ∧ (0 ≤ k ∧ k ≤ 4)
  case neg => rw [if_neg c]; exact hI
  rw [if_pos c]
  rcases isF_c S f hI with z | ⟨q, hq, rfl, -, hfr⟩
  · exact absurd c.1 z
  have h8 := hI.1
  rw [nI_clamp (n := q) (by omega), hfr]
  refine I_repl hI hq (fun g ps e => ?_)
  by_cases k0 : k.toNatClampNeg = 0
  · rw [k0] at e
    exact (swap_ok (hI.2.1 q hq).1 e).1
  · exact (move_ok (hI.2.1 q hq).1 k0 e).1
theorem I_push {f k i : Int32} (hI : SInv S) : SInv (aPush f k i S).2 := by
  unfold aPush
  by_cases c : isF S f ∧ (0 ≤ i ∧ i < nI (fr S f).length) ∧ (0 ≤ k ∧ k ≤ 1)
  case neg => rw [if_neg c]; exact hI
  rw [if_pos c]
  rcases isF_c S f hI with z | ⟨q, hq, rfl, -, hfr⟩
  · exact absurd c.1 z
  have h8 := hI.1
  rw [nI_clamp (n := q) (by omega), hfr]
  rw [hfr] at c
  have b := vld_bd (hI.2.1 q hq).1
  rcases arg_ix i (n := (S.1.getD q []).length) (by omega) with z | ⟨j, hj, rfl⟩
  · exact absurd c.2.1 z
  rw [nI_clamp (n := j) (by omega)]
  exact I_repl hI hq (fun g ps e => (push_ok (hI.2.1 q hq).1 hj e).1)
theorem I_adds {f k i m : Int32} (hI : SInv S) : SInv (aAdd f k i m S).2 := by
  unfold aAdd
  by_cases c : isF S f ∧ (0 ≤ k ∧ k ≤ 3) ∧ (0 ≤ i ∧ i ≤ nI (fr S f).length) ∧ (0 ≤ m ∧ m < nI (ahL ((fr S f).take i.toNatClampNeg)))
  case neg => rw [if_neg c]; exact hI
  rw [if_pos c]
  rcases isF_c S f hI with z | ⟨q, hq, rfl, -, hfr⟩
  · exact absurd c.1 z
  have h8 := hI.1
  rw [nI_clamp (n := q) (by omega)]
  rw [hfr] at c
  have hw := hI.2.1 q hq
  have b := vld_bd hw.1
  obtain ⟨j, hj, rfl⟩ := arg_le i (S.1.getD q []).length (by omega) c.2.2.1
  have ej : (nI j).toNatClampNeg = j := nI_clamp (by omega)
  rw [ej] at c ⊢
  have a10 := (mid_ok hw.1 j 0).2
  rcases arg_ix m (n := ahL ((S.1.getD q []).take j)) (by omega) with z | ⟨t, ht, rfl⟩
  · exact absurd c.2.2.2 z
  rw [nI_clamp (n := t) (by omega)]
  refine I_repl hI hq (fun g ps e => ?_)
  obtain ⟨rfl, rfl⟩ := Prod.mk.inj (Option.some.inj e)
  exact (add_ok hw.1 hj ht).1
theorem join_whl {a b : List Ev} (ha : whl a) (hb : whl b) (h1 : ¬ 32 < a.length + b.length) (h2 : ¬ 12 < crs a + crs b) : whl (a.take (a.length - 1) ++ b.drop 1) := by
  have l1 := List.length_pos_iff.mpr ha.2.1
  have l2 := List.length_pos_iff.mpr hb.2.1
  have sa := ((vld_iff _).mp ha.1).1
  have sb := ((vld_iff _).mp hb.1).1
  have lq := ev_ok ha.1 (x := a.length - 1) (by omega)
  rw [show a.length - 1 + 1 = a.length by omega, aN_full, ha.2.2] at lq
  have kq : evK a (a.length - 1) = 2 ∧ aN a (a.length - 1) = 2 := by
    obtain ⟨m1, m2, m3, m4, m5⟩ := lq
    rcases (by omega : evK a (a.length - 1) = 0 ∨ evK a (a.length - 1) = 1 ∨ evK a (a.length - 1) = 2) with z | z | z
    · have := m3 z
      omega
    · have := m4 z
      omega
    · have := m5 z
      exact ⟨z, by omega⟩
  have fr0 := ev_ok hb.1 (x := 0) l2
  rw [aN_zero] at fr0
  have kr : evK b 0 = 0 := by
    obtain ⟨m1, m2, m3, m4, m5⟩ := fr0
    rcases (by omega : evK b 0 = 0 ∨ evK b 0 = 1 ∨ evK b 0 = 2) with z | z | z
    · exact z
    · have := m4 z
      omega
    · have := m5 z
      omega
  have hd0 : b = (evK b 0, evP b 0) :: b.drop 1 := by
    have := dtS (es := b) (i := 0) (g := b.length - 1) l2
    rw [List.drop_zero, Nat.zero_add, Nat.sub_add_cancel l2, List.take_length] at this
    rw [List.take_of_length_le (by rw [List.length_drop]; omega)] at this
    exact this
  have e2 : stp 0 (evK b 0) = 2 := by rw [kr]; rfl
  have s2 : sS 2 (b.drop 1) := by
    rw [hd0] at sb
    have h := sb.2
    rw [show stp 0 ((evK b 0, evP b 0) : Ev).1 = 2 from e2] at h
    exact h
  have a2 : aS 2 (b.drop 1) = 0 := by
    have h : aS 0 b = 0 := hb.2.2
    rw [hd0] at h
    show List.foldl _ 2 _ = 0
    rw [← e2]
    exact h
  have ta : aS 0 (a.take (a.length - 1)) = 2 := kq.2
  have hsa : sS 0 (a.take (a.length - 1)) := ((vld_iff _).mp (vld_take ha.1 _)).1
  have cq : crs (a.take (a.length - 1)) ≤ crs a := by
    have := congrArg crs (List.take_append_drop (a.length - 1) a)
    rw [crs_app] at this
    omega
  have cr : crs (b.drop 1) ≤ crs b := by
    have := congrArg crs (List.take_append_drop 1 b)
    rw [crs_app] at this
    omega
  have vj : vld (a.take (a.length - 1) ++ b.drop 1) := by
    rw [vld_iff, sS_app, ta, crs_app, List.length_append, List.length_take, List.length_drop]
    exact ⟨⟨hsa, s2⟩, by omega, by omega⟩
  refine ⟨vj, fun z => ?_, ?_⟩
  · rw [List.append_eq_nil_iff] at z
    have := ta
    rw [z.1] at this
    exact absurd this (by decide)
  · rw [ahL_aS, aS_app, ta]
    exact a2
theorem I_join {f g : Int32} (hI : SInv S) : SInv (aJoin f g S).2 := by
  unfold aJoin
  by_cases c : isF S f ∧ isF S g
  case neg => rw [if_neg c]; exact hI
  rw [if_pos c]
  rcases isF_c S f hI with z | ⟨q, hq, rfl, -, hfr⟩
  · exact absurd c.1 z
  rcases isF_c S g hI with z | ⟨r, hr, rfl, -, hgr⟩
  · exact absurd c.2 z
  rw [hfr, hgr]
  by_cases c1 : S.1.length = 8 ∨ 32 < (S.1.getD q []).length + (S.1.getD r []).length ∨ 12 < crs (S.1.getD q []) + crs (S.1.getD r [])
  · rw [if_pos c1]
    exact hI
  rw [if_neg c1]
  exact I_add hI (by have := hI.1; omega) (join_whl (hI.2.1 q hq) (hI.2.1 r hr) (fun z => c1 (Or.inr (Or.inl z))) (fun z => c1 (Or.inr (Or.inr z))))
end SIV
