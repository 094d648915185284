/-! the model: goOne, goAlong -/
noncomputable def trT (es : List Ev) : TS := trc es (bth es es.length)
/-- the model's rows hold the trace s -/
def trR (es : List Ev) (s : TS) (v : Nat → Int32) (a : Nat → Nat → Int32) : Prop := GR es s.1 a ∧ v 24 = nI s.2.1 ∧ (∀ j, j < s.2.1 → a 13 j = nI (s.2.2.1 j) ∧ a 14 j = nI (s.2.2.2.1 j) ∧ a 15 j = nI (s.2.2.2.2 j)) ∧ ∀ c m, s.1 c = some m → m.1 < s.2.1
section GOS
variable {G : mG} {d N M f : Nat} {es : List Ev} {post : Option Value → mH → Prop} {v : Nat → Int32} {a : Nat → Nat → Int32} {h : mH}
set_option maxRecDepth 10000 in
theorem m_goOne {q x : Nat} {V : VM} {e1 e2 : Int32} (hw : whl es) (hs : slotR a f es) (hf : f < 8) (hq : v 24 = nI q) (hq15 : q < 15) (hx : x < es.length) (hK : evK es x = 0) (hM : ModelC h G M v a) (hG : GR es V a) (hC : CL es V) (hn : V (2 * bth es x + 1) = none) (hPB : ∀ c m, V c = some m → m.1 ≤ q) (h14 : a 14 q = 0) (h15 : a 15 q = 0) (he1 : e1 = nI (x + 1)) (he2 : e2 = nI (evP es x + 1))
    (hp : ∀ (h' : mH) (a' : Nat → Nat → Int32), GR es (wlk es q 16 V 0 0 (2 * bth es x + 1) 0).1 a' → ModelC h' G M v a' → mKeep h h' M (M + 17) → WS a a' q (wlk es q 16 V 0 0 (2 * bth es x + 1) 0).2.1 (wlk es q 16 V 0 0 (2 * bth es x + 1) 0).2.2 → (∀ c m, (wlk es q 16 V 0 0 (2 * bth es x + 1) 0).1 c = some m → m.1 ≤ q) → post none h') : MC G MX7_goOne d 0 0 [.ref M, .int (nI f), .int e1, .int e2] h N post := by
  subst he1
  subst he2
  have hb := (ev_ok hw.1 hx).2.2.1 hK
  have hb2 := bth_succ (es := es) hx
  have hb3 := bth_mono (es := es) (x + 1) es.length (by omega) (Nat.le_refl _)
  have hb4 := bth_le hw
  rw [if_pos hK] at hb2
  have hlt : 2 * bth es x + 1 < nA es := by unfold nA; omega
  refine MC.of (L0 := [some (.ref M), some (.int (nI f)), some (.int (nI (x + 1))), some (.int (nI (evP es x + 1))), none, none, none, none, none, none, none, none]) gd_X7_goOne (Nat.le_of_ble_eq_true rfl) rfl (MW.run gd_X7_goOne [12] 20 ?_)
  simp (disch := omega) only [↓EVj, ↓w_if_eq, ↓EVc, ↓ft_X7_goOne, ↓reduceIte, ↓EV_obs, ↓EV_obn, ↓EV_ais, ↓EV_ain, mdF, mRun, List.mem_cons, List.not_mem_nil, or_false, mtab_eq, Nat.reduceEqDiff, Nat.zero_add, mset2, b10, b00, not_true_eq_false, not_false_eq_true, true_implies, false_implies, implies_true, and_true, true_and, Nat.le_refl, true_or, or_true, eq_self, List.length_cons, List.length_nil, Nat.reduceAdd, Nat.reduceLT, Nat.reduceLeDiff]
  exact goLoop (d := d) (N := N) (i0 := nI (x + 1)) (j0 := nI (evP es x + 1)) (hh := h) (a0 := a) (post := post) hw hs hf hq hq15 (r0 := 2 * bth es x + 1) hp 16 V 0 0 (2 * bth es x + 1) x (evP es x + 1) 0 a h rfl (CL_WP hC hlt hn) (by unfold nA; omega) hPB hx (by omega) hK (Or.inr rfl) (arc_b2 hK) hG hM mKeep_rfl ⟨fun _ _ => rfl, h14, h15, fun _ _ => ⟨rfl, rfl⟩⟩ none none none none
theorem trc_at {es : List Ev} {j : Nat} : trc es (j + 1) = if ((trc es j).1 (2 * j + 1)).isSome = true then trc es j else ((wlk es (trc es j).2.1 16 (trc es j).1 0 0 (2 * j + 1) 0).1, (trc es j).2.1 + 1, nset (trc es j).2.2.1 (trc es j).2.1 (bE es j), nset (trc es j).2.2.2.1 (trc es j).2.1 (wlk es (trc es j).2.1 16 (trc es j).1 0 0 (2 * j + 1) 0).2.1, nset (trc es j).2.2.2.2 (trc es j).2.1 (wlk es (trc es j).2.1 16 (trc es j).1 0 0 (2 * j + 1) 0).2.2) := rfl
set_option maxRecDepth 10000 in
theorem m_goAlong (hd : 1 ≤ d) (hw : whl es) (hs : slotR a f es) (hf : f < 8) (hM : ModelC h G M v a)
    (hp : ∀ (h' : mH) (v' : Nat → Int32) (a' : Nat → Nat → Int32), trR es (trT es) v' a' → ModelC h' G M v' a' → mKeep h h' M (M + 17) → (∀ k, k ≠ 24 → v' k = v k) → (∀ k, k ≤ 9 ∨ 16 ≤ k → a' k = a k) → post none h') : MC G MX7_goAlong d 0 0 [.ref M, .int (nI f)] h N post := by
  have h0 := hM.1
  have b30 := (vld_bd hw.1).1
  have hcf : (nI f).toNatClampNeg = f := nI_clamp (by omega)
  have vf : vp_in (nI f) 8 := vp_in_nI hf (by decide)
  refine MC.of (L0 := [some (.ref M), some (.int (nI f)), none, none]) gd_X7_goAlong (Nat.le_of_ble_eq_true rfl) rfl (MW.run gd_X7_goAlong [7] 20 ?_)
  simp (disch := omega) only [↓EVj, ↓w_if_eq, ↓EVc, ↓ft_X7_goAlong, ↓reduceIte, ↓EV_obs, ↓EV_obn, ↓EV_ais, ↓EV_ain, ↓EV_ob h0, mdF, mRun, List.mem_cons, List.not_mem_nil, or_false, mtab_eq, Nat.reduceEqDiff, Nat.zero_add, mset2, b10, b00, not_true_eq_false, not_false_eq_true, true_implies, false_implies, implies_true, and_true, true_and, Nat.le_refl, true_or, or_true, eq_self, List.length_cons, List.length_nil, Nat.reduceAdd, Nat.reduceLT, Nat.reduceLeDiff]
  -- the marks are taken away
  refine MW.upto 310 (fun i L h' => ∃ a', L = [some (.ref M), some (.int (nI f)), some (.int (nI i)), none] ∧ ModelC h' G M (upd v 24 0) a' ∧ (∀ k, k ≠ 10 → a' k = a k) ∧ (∀ j, j < i → a' 10 j = -4) ∧ mKeep h h' M (M + 17)) ?_ ?_ 0 _ _ (Nat.zero_le _) ⟨a, rfl, ModelC_v (v' := upd v 24 0) hM, fun _ _ => rfl, fun j hj => absurd hj (Nat.not_lt_zero j), fun z hz => mset_ne (by omega)⟩
  · rintro i L h' hi ⟨a', rfl, hM', hk1, hk2, hk⟩ ih
    have h0 := hM'.1
    have a10 : h' (M + 10) = some (.inl (gC G 0, 310, .inl (a' 10))) := hM'.2 10 (by decide) (by decide)
    have hci : (nI i).toNatClampNeg = i := nI_clamp (by omega)
    have vi : vp_in (nI i) 310 := vp_in_nI hi (by decide)
    have f1 : ((310 : Int32) ≤ nI i) = False := eq_false (by simp (disch := omega) only [z_nI, z_lit, z_neg, z_add, z_sub, z_mul, z_lt, z_le, z_eq, z_in, z_cl]; omega)
    refine MW.run1 gd_X7_goAlong [7] 30 ?_
    simp (disch := omega) only [↓EVj, ↓w_if_eq, ↓EVc, ↓ft_X7_goAlong, ↓reduceIte, ↓EV_obs, ↓EV_obn, ↓EV_ais, ↓EV_ain, ↓EV_ob h0, ↓EV_ai a10, mdF, mRun, List.mem_cons, List.not_mem_nil, or_false, mtab_eq, Nat.reduceEqDiff, Nat.zero_add, hci, vi, f1, mset2, b10, b00, not_true_eq_false, not_false_eq_true, true_implies, false_implies, implies_true, and_true, true_and, Nat.le_refl, true_or, or_true, eq_self, List.length_cons, List.length_nil, Nat.reduceAdd, Nat.reduceLT, Nat.reduceLeDiff]
    rw [nI_1]
    refine ih _ _ ⟨_, rfl, ModelC_a (k := 10) hM' (by decide) (by decide), fun k hk => ?_, fun j hj => ?_, fun z hz => by rw [mset_ne (by omega)]; exact hk z hz⟩
    · unfold aset
      rw [if_neg hk]
      exact hk1 k hk
    · show upd (a' 10) i (-4) j = -4
      by_cases e : j = i
      · subst e
        exact pk_us
      · rw [pk_un e]
        exact hk2 j (by omega)
  rintro L h1 ⟨a1, rfl, hM1, hk1, hk2, hk⟩
  have h01 := hM1.1
  have f310 : ((310 : Int32) ≤ nI 310) = True := eq_true (by decide)
  refine MW.run1 gd_X7_goAlong [7, 30] 30 ?_
  simp (disch := omega) only [↓EVj, ↓w_if_eq, ↓EVc, ↓ft_X7_goAlong, ↓reduceIte, ↓EV_obs, ↓EV_obn, ↓EV_ais, ↓EV_ain, ↓EV_ob h01, mdF, mRun, List.mem_cons, List.not_mem_nil, or_false, mtab_eq, Nat.reduceEqDiff, Nat.zero_add, f310, mset2, b10, b00, not_true_eq_false, not_false_eq_true, true_implies, false_implies, implies_true, and_true, true_and, Nat.le_refl, true_or, or_true, eq_self, List.length_cons, List.length_nil, Nat.reduceAdd, Nat.reduceLT, Nat.reduceLeDiff]
  refine MW.upto es.length (fun i L h' => ∃ v' a' x3, L = [some (.ref M), some (.int (nI f)), some (.int (nI i)), x3] ∧ ModelC h' G M v' a' ∧ trR es (trc es (bth es i)) v' a' ∧ (∀ k, k ≠ 24 → v' k = v k) ∧ (∀ k, k ≤ 9 ∨ 16 ≤ k → a' k = a k) ∧ mKeep h h' M (M + 17)) ?_ ?_ 0 _ _ (Nat.zero_le _) ⟨upd v 24 0, a1, none, rfl, hM1, ?_, fun k hk => pk_un hk, fun k hk => hk1 k (by omega), hk⟩
  case refine_3 =>
    rw [bth_zero]
    refine ⟨fun x y hx hy => ?_, pk_us, fun j hj => absurd hj (Nat.not_lt_zero j), fun c m z => by cases z⟩
    have := aN_le hw hx hy
    exact hk2 _ (by omega)
  case refine_2 =>
    rintro L h' ⟨v', a', x3, rfl, hM', ht, hv, ha, hk'⟩
    have h0 := hM'.1
    have a1' : h' (M + 1) = some (.inl (gC G 0, 8, .inl (a' 1))) := hM'.2 1 (by decide) (by decide)
    have hs1 : a' 1 f = nI es.length := by rw [ha 1 (by decide)]; exact hs.1
    have f1 : (nI es.length ≤ nI es.length) = True := eq_true (nI_le (Nat.le_refl _) (by omega))
    refine MW.run1 gd_X7_goAlong [30] 30 ?_
    simp (disch := omega) only [↓EVj, ↓w_if_eq, ↓EVc, ↓ft_X7_goAlong, ↓reduceIte, ↓EV_obs, ↓EV_obn, ↓EV_ais, ↓EV_ain, ↓EV_ob h0, ↓EV_ai a1', mdF, mRun, List.mem_cons, List.not_mem_nil, or_false, mtab_eq, Nat.reduceEqDiff, Nat.zero_add, hcf, vf, hs1, f1, mset2, b10, b00, not_true_eq_false, not_false_eq_true, true_implies, false_implies, implies_true, and_true, true_and, Nat.le_refl, true_or, or_true, eq_self, List.length_cons, List.length_nil, Nat.reduceAdd, Nat.reduceLT, Nat.reduceLeDiff]
    exact hp h' v' a' ht hM' hk' hv ha
  rintro i L h' hi ⟨v', a', x3, rfl, hM', ht, hv, ha, hk'⟩ ih
  have h0 := hM'.1
  have a1' : h' (M + 1) = some (.inl (gC G 0, 8, .inl (a' 1))) := hM'.2 1 (by decide) (by decide)
  have a2' : h' (M + 2) = some (.inl (gC G 0, 240, .inl (a' 2))) := hM'.2 2 (by decide) (by decide)
  have a3' : h' (M + 3) = some (.inl (gC G 0, 240, .inl (a' 3))) := hM'.2 3 (by decide) (by decide)
  have a10' : h' (M + 10) = some (.inl (gC G 0, 310, .inl (a' 10))) := hM'.2 10 (by decide) (by decide)
  have a13' : h' (M + 13) = some (.inl (gC G 0, 15, .inl (a' 13))) := hM'.2 13 (by decide) (by decide)
  have a14' : h' (M + 14) = some (.inl (gC G 0, 15, .inl (a' 14))) := hM'.2 14 (by decide) (by decide)
  have a15' : h' (M + 15) = some (.inl (gC G 0, 15, .inl (a' 15))) := hM'.2 15 (by decide) (by decide)
  have hs' : slotR a' f es := slotR_congr (ha 1 (by decide)) (ha 2 (by decide)) (ha 3 (by decide)) hs
  have hs1 : a' 1 f = nI es.length := hs'.1
  obtain ⟨hKi, hPi⟩ := hs'.2 i hi
  have f1 : (nI es.length ≤ nI i) = False := eq_false (by simp (disch := omega) only [z_nI, z_lit, z_neg, z_add, z_sub, z_mul, z_lt, z_le, z_eq, z_in, z_cl]; omega)
  have hce : (30 * nI f + nI i).toNatClampNeg = 30 * f + i := by simp (disch := omega) only [z_nI, z_lit, z_neg, z_add, z_sub, z_mul, z_lt, z_le, z_eq, z_in, z_cl]; omega
  have ve : vp_in (30 * nI f + nI i) 240 := by simp (disch := omega) only [z_nI, z_lit, z_neg, z_add, z_sub, z_mul, z_lt, z_le, z_eq, z_in, z_cl]; omega
  have hb2 := bth_succ (es := es) hi
  have sm := vld_sm hw.1 hi
  have next : trR es (trc es (bth es (i + 1))) v' a' → ∀ x3, MW G MX7_goAlong (mz G d 0 0 post) 30 [some (.ref M), some (.int (nI f)), some (.int (nI (i + 1))), x3] [] h' (N, 0, 0) := fun t x3 => ih _ _ ⟨v', a', x3, rfl, hM', t, hv, ha, hk'⟩
  by_cases k0 : evK es i = 0
  case neg =>
    rw [if_neg k0, Nat.add_zero] at hb2
    have f2 : (nI (evK es i) = 0) = False := eq_false (fun z => k0 ((nI_eq (b := 0) (by omega) (by omega)).mp z))
    have nx := next (by rw [hb2]; exact ht)
    clear ih next hp
    refine MW.run1 gd_X7_goAlong [30] 60 ?_
    simp (disch := omega) only [↓EVj, ↓w_if_eq, ↓EVc, ↓ft_X7_goAlong, ↓reduceIte, ↓EV_obs, ↓EV_obn, ↓EV_ais, ↓EV_ain, ↓EV_ob h0, ↓EV_ai a1', ↓EV_ai a2', ↓EV_ai a3', mdF, mRun, List.mem_cons, List.not_mem_nil, or_false, mtab_eq, Nat.reduceEqDiff, Nat.zero_add, hcf, vf, hs1, f1, hce, ve, hKi, hPi, f2, mset2, b10, b00, not_true_eq_false, not_false_eq_true, true_implies, false_implies, implies_true, and_true, true_and, Nat.le_refl, true_or, or_true, eq_self, List.length_cons, List.length_nil, Nat.reduceAdd, Nat.reduceLT, Nat.reduceLeDiff]
    rw [nI_1]
    exact nx _
  rw [if_pos k0] at hb2
  have f2 : (nI (evK es i) = 0) = True := eq_true (by rw [k0]; rfl)
  have hb := (ev_ok hw.1 hi).2.2.1 k0
  have hcg : (10 * (nI i + 1) + nI (evP es i)).toNatClampNeg = 10 * (i + 1) + evP es i := by simp (disch := omega) only [z_nI, z_lit, z_neg, z_add, z_sub, z_mul, z_lt, z_le, z_eq, z_in, z_cl]; omega
  have vg : vp_in (10 * (nI i + 1) + nI (evP es i)) 310 := by simp (disch := omega) only [z_nI, z_lit, z_neg, z_add, z_sub, z_mul, z_lt, z_le, z_eq, z_in, z_cl]; omega
  obtain ⟨g1, g2, g3, g4⟩ := ht
  have hbn := bth_mono (es := es) (i + 1) es.length (by omega) (Nat.le_refl _)
  have hb15 := bth_le hw
  obtain ⟨c1, c2, c3⟩ := trc_ok hw (bth es i) (by omega)
  have hgat : gAt a' (10 * (i + 1) + evP es i) ((trc es (bth es i)).1 (2 * bth es i)) := by
    have z := g1 (i + 1) (evP es i) (by omega) (by omega)
    have z' : gAt a' (10 * (i + 1) + evP es i) ((trc es (bth es i)).1 (arcF es (i + 1) (evP es i))) := z
    rw [arc_b1 k0] at z'
    exact z'
  have pe : par (2 * bth es i + 1) = 2 * bth es i := by unfold par; rw [if_neg (by omega)]; omega
  have pe2 : par (2 * bth es i) = 2 * bth es i + 1 := by unfold par; rw [if_pos (by omega)]
  have hcn := cnt_le (trc es (bth es i)).1 (nA es)
  have hnA : nA es ≤ 30 := by unfold nA; omega
  by_cases cs : ((trc es (bth es i)).1 (2 * bth es i + 1)).isSome = true
  · have cs2 : ((trc es (bth es i)).1 (2 * bth es i)).isSome = true := by
      have := (c1 _ cs).2.2
      rw [pe] at this
      exact this
    obtain ⟨m, hm⟩ := Option.isSome_iff_exists.mp cs2
    have hmp := g4 _ m hm
    rw [hm] at hgat
    have f3 : (a' 10 (10 * (i + 1) + evP es i) = -4) = False := eq_false (by rw [hgat.1]; simp (disch := omega) only [z_nI, z_lit, z_neg, z_add, z_sub, z_mul, z_lt, z_le, z_eq, z_in, z_cl]; omega)
    have nx := next (by rw [hb2, trc_at, if_pos cs]; exact ⟨g1, g2, g3, g4⟩)
    clear ih next hp
    refine MW.run1 gd_X7_goAlong [30] 60 ?_
    simp (disch := omega) only [↓EVj, ↓w_if_eq, ↓EVc, ↓ft_X7_goAlong, ↓reduceIte, ↓EV_obs, ↓EV_obn, ↓EV_ais, ↓EV_ain, ↓EV_ob h0, ↓EV_ai a1', ↓EV_ai a2', ↓EV_ai a3', ↓EV_ai a10', mdF, mRun, List.mem_cons, List.not_mem_nil, or_false, mtab_eq, Nat.reduceEqDiff, Nat.zero_add, hcf, vf, hs1, f1, hce, ve, hKi, hPi, f2, hcg, vg, f3, mset2, b10, b00, not_true_eq_false, not_false_eq_true, true_implies, false_implies, implies_true, and_true, true_and, Nat.le_refl, true_or, or_true, eq_self, List.length_cons, List.length_nil, Nat.reduceAdd, Nat.reduceLT, Nat.reduceLeDiff]
    rw [nI_1]
    exact nx _
  · have hn : (trc es (bth es i)).1 (2 * bth es i + 1) = none := by
      cases e : (trc es (bth es i)).1 (2 * bth es i + 1) with
      | none => rfl
      | some _ => rw [e] at cs; exact absurd rfl cs
    have hn2 : (trc es (bth es i)).1 (2 * bth es i) = none := by
      cases e : (trc es (bth es i)).1 (2 * bth es i) with
      | none => rfl
      | some w =>
        have := (c1 (2 * bth es i) (by rw [e]; rfl)).2.2
        rw [pe2] at this
        exact absurd this cs
    rw [hn2] at hgat
    have f3 : (a' 10 (10 * (i + 1) + evP es i) = -4) = True := eq_true hgat
    have hlt : 2 * bth es i + 1 < nA es := by unfold nA; omega
    have hful := cnt_full hlt hn
    have hq15 : (trc es (bth es i)).2.1 < 15 := by omega
    have vq : vp_in (v' 24) 15 := by rw [g2]; exact vp_in_nI hq15 (by decide)
    have hqc : (v' 24).toNatClampNeg = (trc es (bth es i)).2.1 := by rw [g2]; exact nI_clamp (by omega)
    have ei : nI i + 1 = nI (i + 1) := nI_1 i
    have ep : nI (evP es i) + 1 = nI (evP es i + 1) := nI_1 _
    have hbE := bE_eq (es := es) (x := i) (j := bth es i) ⟨hi, k0, rfl⟩
    generalize hs0 : trc es (bth es i) = s at *
    refine MW.run1 gd_X7_goAlong [30, 114] 60 ?_
    clear next
    simp (disch := omega) only [↓EVj, ↓w_if_eq, ↓EVc, ↓ft_X7_goAlong, ↓reduceIte, ↓EV_obs, ↓EV_obn, ↓EV_ais, ↓EV_ain, ↓EV_ob h0, ↓EV_ai a1', ↓EV_ai a2', ↓EV_ai a3', ↓EV_ai a10', ↓EV_ai a13', ↓EV_ai a14', ↓EV_ai a15', mdF, mRun, List.mem_cons, List.not_mem_nil, or_false, mtab_eq, Nat.reduceEqDiff, Nat.zero_add, hcf, vf, hs1, f1, hce, ve, hKi, hPi, f2, hcg, vg, f3, hqc, vq, mset2, b10, b00, not_true_eq_false, not_false_eq_true, true_implies, false_implies, implies_true, and_true, true_and, Nat.le_refl, true_or, or_true, eq_self, List.length_cons, List.length_nil, Nat.reduceAdd, Nat.reduceLT, Nat.reduceLeDiff]
    have hM3 := ModelC_a (k := 15) (f := upd (a' 15) s.2.1 0) (ModelC_a (k := 14) (f := upd (a' 14) s.2.1 0) (ModelC_a (k := 13) (f := upd (a' 13) s.2.1 (nI i)) hM' (by decide) (by decide)) (by decide) (by decide)) (by decide) (by decide)
    generalize ha3 : aset (aset (aset a' 13 (upd (a' 13) s.2.1 (nI i))) 14 (upd (a' 14) s.2.1 0)) 15 (upd (a' 15) s.2.1 0) = a3 at hM3
    have q13 : a3 13 = upd (a' 13) s.2.1 (nI i) := by rw [← ha3]; rfl
    have q14 : a3 14 = upd (a' 14) s.2.1 0 := by rw [← ha3]; rfl
    have q15 : a3 15 = upd (a' 15) s.2.1 0 := by rw [← ha3]; rfl
    have qo : ∀ k, k ≤ 12 ∨ 16 ≤ k → a3 k = a' k := by
      intro k hk
      rw [← ha3]
      unfold aset
      rw [if_neg (by omega), if_neg (by omega), if_neg (by omega)]
    have h03 := hM3.1
    refine MW.run1 gd_X7_goAlong [30] 60 ?_
    simp (disch := omega) only [↓EVj, ↓w_if_eq, ↓EVc, ↓ft_X7_goAlong, ↓reduceIte, ↓EV_obs, ↓EV_obn, ↓EV_ais, ↓EV_ain, ↓EV_ob h0, mdF, mRun, List.mem_cons, List.not_mem_nil, or_false, mtab_eq, Nat.reduceEqDiff, Nat.zero_add, hd, mset2, b10, b00, not_true_eq_false, not_false_eq_true, true_implies, false_implies, implies_true, and_true, true_and, Nat.le_refl, true_or, or_true, eq_self, List.length_cons, List.length_nil, Nat.reduceAdd, Nat.reduceLT, Nat.reduceLeDiff]
    have hG3 : GR es s.1 a3 := by
      intro x y hx hy
      have z := g1 x y hx hy
      revert z
      show gAt a' (10 * x + y) (s.1 (arcF es x y)) → gAt a3 (10 * x + y) (s.1 (arcF es x y))
      unfold gAt
      rw [qo 10 (by decide), qo 11 (by decide), qo 12 (by decide)]
      exact id
    refine m_goOne (q := s.2.1) hw (slotR_congr (qo 1 (by decide)) (qo 2 (by decide)) (qo 3 (by decide)) hs') hf g2 hq15 hi k0 hM3 hG3 c1 hn (fun c m z => Nat.le_of_lt (g4 c m z)) (by rw [q14, pk_us]) (by rw [q15, pk_us]) ei ep (fun h4 a4 hG4 hM4 hk4 hS4 hB4 => ?_)
    have h04 := hM4.1
    simp (disch := omega) only [↓EVj, ↓w_if_eq, ↓EVc, ↓ft_X7_goAlong, ↓reduceIte, ↓EV_obs, ↓EV_obn, ↓EV_ais, ↓EV_ain, ↓EV_ob h04, mdF, mRun, List.mem_cons, List.not_mem_nil, or_false, mtab_eq, Nat.reduceEqDiff, Nat.zero_add, hd, mset2, b10, b00, not_true_eq_false, not_false_eq_true, true_implies, false_implies, implies_true, and_true, true_and, Nat.le_refl, true_or, or_true, eq_self, List.length_cons, List.length_nil, Nat.reduceAdd, Nat.reduceLT, Nat.reduceLeDiff]
    rw [nI_1]
    refine ih _ _ ⟨_, a4, _, rfl, ModelC_v (v' := upd v' 24 (v' 24 + 1)) hM4, ?_, fun k hk => by rw [pk_un hk]; exact hv k hk, fun k hk => by rw [hS4.1 k (by omega), qo k (by omega)]; exact ha k hk, ?_⟩
    · rw [hb2, trc_at, hs0, if_neg cs]
      refine ⟨hG4, by rw [pk_us, g2, nI_1], fun j hj => ?_, fun c m z => ?_⟩
      · have hj' : j < s.2.1 + 1 := hj
        show a4 13 j = nI (nset s.2.2.1 s.2.1 (bE es (bth es i)) j) ∧ a4 14 j = nI (nset s.2.2.2.1 s.2.1 _ j) ∧ a4 15 j = nI (nset s.2.2.2.2 s.2.1 _ j)
        unfold nset
        rw [hS4.1 13 (by omega), q13]
        by_cases e : j = s.2.1
        · rw [if_pos e, if_pos e, if_pos e, e, pk_us, hbE]
          exact ⟨rfl, hS4.2.1, hS4.2.2.1⟩
        · rw [if_neg e, if_neg e, if_neg e, pk_un e]
          obtain ⟨r1, r2⟩ := hS4.2.2.2 j e
          rw [r1, r2, q14, q15, pk_un e, pk_un e]
          exact g3 j (by omega)
      · have := hB4 c m z
        show m.1 < s.2.1 + 1
        omega
    · intro z hz
      rw [mset_ne (by omega), hk4 z hz]
      simp (disch := omega) only [mset_ne]
      exact hk' z hz
end GOS
