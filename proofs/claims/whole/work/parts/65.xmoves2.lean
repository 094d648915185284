/-! the class: move, push, add -/
section XS
variable {G : mG} {d N B : Nat} {S : AS} {h : mH} {post : Option Value → mH → Prop}
theorem mv_len {es : List Ev} (hv : vld es) {kind i g : Nat} {ps : List Ev} (h : mvP es kind i = some (g, ps)) : i + g ≤ es.length := by
  by_cases c : kind = 0
  · subst c
    exact (swap_ok hv h).1.1
  · exact (move_ok hv c h).1.1
theorem ps_len {es : List Ev} (hv : vld es) {kind i g : Nat} {ps : List Ev} (hi : i < es.length) (h : psP es kind i = some (g, ps)) : i + g ≤ es.length := (push_ok hv hi h).1.1
set_option maxRecDepth 10000 in
theorem X_move {f k i : Int32} (hd : 6 ≤ d) (hI : SInv S) (hX : XR h G B S) (hp : ∀ h', XR h' G B (aMove f k i S).2 → mKeep h h' B (B + 136) → post (some (.int (aMove f k i S).1)) h') : MC G MX6_move d 0 0 [.ref B, .int f, .int k, .int i] h N post := by
  have h0 := hX.1
  have h8 := hI.1
  have hd1 : 1 ≤ d := by omega
  have hfa := hX.2.2.2.1
  unfold aMove at hp
  refine MC.of (L0 := [some (.ref B), some (.int f), some (.int k), some (.int i)]) gd_X6_move (Nat.le_of_ble_eq_true rfl) rfl (MW.run gd_X6_move [20] 30 ?_)
  simp (disch := omega) only [↓EVi, ↓EVc, ↓ft_X6_move, ↓reduceIte, ↓EV_obs, ↓EV_obn, ↓EV_ais, ↓EV_ain, ↓EV_ob h0, mdF, mRun, List.mem_cons, List.not_mem_nil, or_false, mtab_eq, Nat.reduceEqDiff, Nat.zero_add, xO, hd1, mset2, b10, b00, not_true_eq_false, not_false_eq_true, true_implies, false_implies, implies_true, and_true, true_and, Nat.le_refl, true_or, or_true, eq_self, List.length_cons, List.length_nil, Nat.reduceAdd, Nat.reduceLT, Nat.reduceLeDiff]
  refine x_isEvent (by omega) hI hX ?_
  by_cases c : isF S f ∧ (0 ≤ i ∧ i < nI (fr S f).length)
  case neg =>
    rw [if_neg c]
    rw [if_neg (fun z => c ⟨z.1, z.2.1⟩)] at hp
    simp (disch := omega) only [↓EVi, ↓EVc, ↓ft_X6_move, ↓reduceIte, ↓EV_obs, ↓EV_obn, ↓EV_ais, ↓EV_ain, ↓EV_ob h0, mdF, mRun, List.mem_cons, List.not_mem_nil, or_false, mtab_eq, Nat.reduceEqDiff, Nat.zero_add, xO, hd1, mset2, b10, b00, not_true_eq_false, not_false_eq_true, true_implies, false_implies, implies_true, and_true, true_and, Nat.le_refl, true_or, or_true, eq_self, List.length_cons, List.length_nil, Nat.reduceAdd, Nat.reduceLT, Nat.reduceLeDiff]
    exact hp h hX mKeep_rfl
  rw [if_pos c]
  simp (disch := omega) only [↓EVi, ↓EVc, ↓ft_X6_move, ↓reduceIte, ↓EV_obs, ↓EV_obn, ↓EV_ais, ↓EV_ain, ↓EV_ob h0, mdF, mRun, List.mem_cons, List.not_mem_nil, or_false, mtab_eq, Nat.reduceEqDiff, Nat.zero_add, xO, hd1, mset2, b10, b00, not_true_eq_false, not_false_eq_true, true_implies, false_implies, implies_true, and_true, true_and, Nat.le_refl, true_or, or_true, eq_self, List.length_cons, List.length_nil, Nat.reduceAdd, Nat.reduceLT, Nat.reduceLeDiff]
  by_cases c1 : k < 0
  · rw [if_neg (fun z => absurd c1 (by rw [Int32.not_lt]; exact z.2.2.1))] at hp
    simp only [c1, not_true_eq_false, true_implies, false_implies, and_true]
    exact hp h hX mKeep_rfl
  simp only [c1, not_false_eq_true, true_implies, false_implies, true_and]
  refine ⟨fun c2 => ?_, fun c2 => ?_⟩
  case refine_2 =>
    rw [if_neg (fun z => c2 z.2.2.2)] at hp
    exact hp h hX mKeep_rfl
  have c3 : 0 ≤ k ∧ k ≤ 4 := ⟨by rw [← Int32.not_lt]; exact c1, c2⟩
  rw [if_pos ⟨c.1, c.2, c3⟩] at hp
  rcases isF_c S f hI with z | ⟨q, hq, rfl, -, hfr⟩
  · exact absurd c.1 z
  have hw := hI.2.1 q hq
  have b := vld_bd hw.1
  rw [hfr] at hp c
  rcases arg_ix i (n := (S.1.getD q []).length) (by omega) with z | ⟨j, hj, rfl⟩
  · exact absurd c.2 z
  obtain ⟨r, hr, rfl⟩ := arg_le k 4 (by decide) c3
  rw [nI_clamp (n := q) (by omega), nI_clamp (n := j) (by omega), nI_clamp (n := r) (by omega)] at hp
  have hcq : (nI q).toNatClampNeg = q := nI_clamp (by omega)
  have vq : vp_in (nI q) 8 := vp_in_nI (by omega) (by decide)
  have hF := hX.2.2.2.2.2.2.2.2.2.2 q hq
  have hP := hX.2.2.2.2.2.1
  obtain ⟨PK, PQ, pn, pg, pp0, -⟩ := id hP
  refine MW.run1 gd_X6_move [] 30 ?_
  simp (disch := omega) only [↓EVi, ↓EVc, ↓ft_X6_move, ↓reduceIte, ↓EV_obs, ↓EV_obn, ↓EV_ais, ↓EV_ain, ↓EV_ob h0, ↓EV_ob pp0, ↓EV_ar hfa, ↓EV_arn, mdF, mRun, List.mem_cons, List.not_mem_nil, or_false, mtab_eq, Nat.reduceEqDiff, Nat.zero_add, xO, hd1, vq, mset2, b10, b00, not_true_eq_false, not_false_eq_true, true_implies, false_implies, implies_true, and_true, true_and, Nat.le_refl, true_or, or_true, eq_self, List.length_cons, List.length_nil, Nat.reduceAdd, Nat.reduceLT, Nat.reduceLeDiff]
  rw [hcq]
  refine p_planMove (by omega) (by unfold xF; omega) hF hP hj hr (fun g ps e h1 hP1 hk1 => ?_) (fun e h1 hP1 hk1 => ?_)
  · have hX1 := XR_patch hX hk1 (PR_A hP1)
    simp (disch := omega) only [↓EVi, ↓EVc, ↓ft_X6_move, ↓reduceIte, ↓EV_obs, ↓EV_obn, ↓EV_ais, ↓EV_ain, ↓EV_ob hX1.1, mdF, mRun, List.mem_cons, List.not_mem_nil, or_false, mtab_eq, Nat.reduceEqDiff, Nat.zero_add, xO, hd1, mset2, b10, b00, not_true_eq_false, not_false_eq_true, true_implies, false_implies, implies_true, and_true, true_and, Nat.le_refl, true_or, or_true, eq_self, List.length_cons, List.length_nil, Nat.reduceAdd, Nat.reduceLT, Nat.reduceLeDiff]
    rw [e] at hp
    refine x_applyPatch (by omega) hI hX1 hq hP1 (mv_len hw.1 e) (fun h2 hX2 hk2 => ?_)
    simp (disch := omega) only [↓EVi, ↓EVc, ↓ft_X6_move, ↓reduceIte, ↓EV_obs, ↓EV_obn, ↓EV_ais, ↓EV_ain, mdF, mRun, List.mem_cons, List.not_mem_nil, or_false, mtab_eq, Nat.reduceEqDiff, Nat.zero_add, hd1, mset2, b10, b00, not_true_eq_false, not_false_eq_true, true_implies, false_implies, implies_true, and_true, true_and, Nat.le_refl, true_or, or_true, eq_self, List.length_cons, List.length_nil, Nat.reduceAdd, Nat.reduceLT, Nat.reduceLeDiff]
    exact hp h2 hX2 (mKeep_trans (mKeep_in hk1 (by omega) (by omega)) hk2)
  · have hX1 := XR_patch hX hk1 hP1
    simp (disch := omega) only [↓EVi, ↓EVc, ↓ft_X6_move, ↓reduceIte, ↓EV_obs, ↓EV_obn, ↓EV_ais, ↓EV_ain, mdF, mRun, List.mem_cons, List.not_mem_nil, or_false, mtab_eq, Nat.reduceEqDiff, Nat.zero_add, hd1, mset2, b10, b00, not_true_eq_false, not_false_eq_true, true_implies, false_implies, implies_true, and_true, true_and, Nat.le_refl, true_or, or_true, eq_self, List.length_cons, List.length_nil, Nat.reduceAdd, Nat.reduceLT, Nat.reduceLeDiff]
    rw [e, aRepl_none] at hp
    exact hp h1 hX1 (mKeep_in hk1 (by omega) (by omega))
set_option maxRecDepth 10000 in
theorem X_push {f k i : Int32} (hd : 6 ≤ d) (hI : SInv S) (hX : XR h G B S) (hp : ∀ h', XR h' G B (aPush f k i S).2 → mKeep h h' B (B + 136) → post (some (.int (aPush f k i S).1)) h') : MC G MX6_push d 0 0 [.ref B, .int f, .int k, .int i] h N post := by
  have h0 := hX.1
  have h8 := hI.1
  have hd1 : 1 ≤ d := by omega
  have hfa := hX.2.2.2.1
  unfold aPush at hp
  refine MC.of (L0 := [some (.ref B), some (.int f), some (.int k), some (.int i)]) gd_X6_push (Nat.le_of_ble_eq_true rfl) rfl (MW.run gd_X6_push [20] 30 ?_)
  simp (disch := omega) only [↓EVi, ↓EVc, ↓ft_X6_push, ↓reduceIte, ↓EV_obs, ↓EV_obn, ↓EV_ais, ↓EV_ain, ↓EV_ob h0, mdF, mRun, List.mem_cons, List.not_mem_nil, or_false, mtab_eq, Nat.reduceEqDiff, Nat.zero_add, xO, hd1, mset2, b10, b00, not_true_eq_false, not_false_eq_true, true_implies, false_implies, implies_true, and_true, true_and, Nat.le_refl, true_or, or_true, eq_self, List.length_cons, List.length_nil, Nat.reduceAdd, Nat.reduceLT, Nat.reduceLeDiff]
  refine x_isEvent (by omega) hI hX ?_
  by_cases c : isF S f ∧ (0 ≤ i ∧ i < nI (fr S f).length)
  case neg =>
    rw [if_neg c]
    rw [if_neg (fun z => c ⟨z.1, z.2.1⟩)] at hp
    simp (disch := omega) only [↓EVi, ↓EVc, ↓ft_X6_push, ↓reduceIte, ↓EV_obs, ↓EV_obn, ↓EV_ais, ↓EV_ain, ↓EV_ob h0, mdF, mRun, List.mem_cons, List.not_mem_nil, or_false, mtab_eq, Nat.reduceEqDiff, Nat.zero_add, xO, hd1, mset2, b10, b00, not_true_eq_false, not_false_eq_true, true_implies, false_implies, implies_true, and_true, true_and, Nat.le_refl, true_or, or_true, eq_self, List.length_cons, List.length_nil, Nat.reduceAdd, Nat.reduceLT, Nat.reduceLeDiff]
    exact hp h hX mKeep_rfl
  rw [if_pos c]
  simp (disch := omega) only [↓EVi, ↓EVc, ↓ft_X6_push, ↓reduceIte, ↓EV_obs, ↓EV_obn, ↓EV_ais, ↓EV_ain, ↓EV_ob h0, mdF, mRun, List.mem_cons, List.not_mem_nil, or_false, mtab_eq, Nat.reduceEqDiff, Nat.zero_add, xO, hd1, mset2, b10, b00, not_true_eq_false, not_false_eq_true, true_implies, false_implies, implies_true, and_true, true_and, Nat.le_refl, true_or, or_true, eq_self, List.length_cons, List.length_nil, Nat.reduceAdd, Nat.reduceLT, Nat.reduceLeDiff]
  by_cases c1 : k < 0
  · rw [if_neg (fun z => absurd c1 (by rw [Int32.not_lt]; exact z.2.2.1))] at hp
    simp only [c1, not_true_eq_false, true_implies, false_implies, and_true]
    exact hp h hX mKeep_rfl
  simp only [c1, not_false_eq_true, true_implies, false_implies, true_and]
  refine ⟨fun c2 => ?_, fun c2 => ?_⟩
  case refine_2 =>
    rw [if_neg (fun z => c2 z.2.2.2)] at hp
    exact hp h hX mKeep_rfl
  have c3 : 0 ≤ k ∧ k ≤ 1 := ⟨by rw [← Int32.not_lt]; exact c1, c2⟩
  rw [if_pos ⟨c.1, c.2, c3⟩] at hp
  rcases isF_c S f hI with z | ⟨q, hq, rfl, -, hfr⟩
  · exact absurd c.1 z
  have hw := hI.2.1 q hq
  have b := vld_bd hw.1
  rw [hfr] at hp c
  rcases arg_ix i (n := (S.1.getD q []).length) (by omega) with z | ⟨j, hj, rfl⟩
  · exact absurd c.2 z
  obtain ⟨r, hr, rfl⟩ := arg_le k 1 (by decide) c3
  rw [nI_clamp (n := q) (by omega), nI_clamp (n := j) (by omega), nI_clamp (n := r) (by omega)] at hp
  have hcq : (nI q).toNatClampNeg = q := nI_clamp (by omega)
  have vq : vp_in (nI q) 8 := vp_in_nI (by omega) (by decide)
  have hF := hX.2.2.2.2.2.2.2.2.2.2 q hq
  have hP := hX.2.2.2.2.2.1
  obtain ⟨PK, PQ, pn, pg, pp0, -⟩ := id hP
  refine MW.run1 gd_X6_push [] 30 ?_
  simp (disch := omega) only [↓EVi, ↓EVc, ↓ft_X6_push, ↓reduceIte, ↓EV_obs, ↓EV_obn, ↓EV_ais, ↓EV_ain, ↓EV_ob h0, ↓EV_ob pp0, ↓EV_ar hfa, ↓EV_arn, mdF, mRun, List.mem_cons, List.not_mem_nil, or_false, mtab_eq, Nat.reduceEqDiff, Nat.zero_add, xO, hd1, vq, mset2, b10, b00, not_true_eq_false, not_false_eq_true, true_implies, false_implies, implies_true, and_true, true_and, Nat.le_refl, true_or, or_true, eq_self, List.length_cons, List.length_nil, Nat.reduceAdd, Nat.reduceLT, Nat.reduceLeDiff]
  rw [hcq]
  refine p_planPush (by omega) (by unfold xF; omega) hF hP hj hr (fun g ps e h1 hP1 hk1 => ?_) (fun e h1 hP1 hk1 => ?_)
  · have hX1 := XR_patch hX hk1 (PR_A hP1)
    simp (disch := omega) only [↓EVi, ↓EVc, ↓ft_X6_push, ↓reduceIte, ↓EV_obs, ↓EV_obn, ↓EV_ais, ↓EV_ain, ↓EV_ob hX1.1, mdF, mRun, List.mem_cons, List.not_mem_nil, or_false, mtab_eq, Nat.reduceEqDiff, Nat.zero_add, xO, hd1, mset2, b10, b00, not_true_eq_false, not_false_eq_true, true_implies, false_implies, implies_true, and_true, true_and, Nat.le_refl, true_or, or_true, eq_self, List.length_cons, List.length_nil, Nat.reduceAdd, Nat.reduceLT, Nat.reduceLeDiff]
    rw [e] at hp
    refine x_applyPatch (by omega) hI hX1 hq hP1 (ps_len hw.1 hj e) (fun h2 hX2 hk2 => ?_)
    simp (disch := omega) only [↓EVi, ↓EVc, ↓ft_X6_push, ↓reduceIte, ↓EV_obs, ↓EV_obn, ↓EV_ais, ↓EV_ain, mdF, mRun, List.mem_cons, List.not_mem_nil, or_false, mtab_eq, Nat.reduceEqDiff, Nat.zero_add, hd1, mset2, b10, b00, not_true_eq_false, not_false_eq_true, true_implies, false_implies, implies_true, and_true, true_and, Nat.le_refl, true_or, or_true, eq_self, List.length_cons, List.length_nil, Nat.reduceAdd, Nat.reduceLT, Nat.reduceLeDiff]
    exact hp h2 hX2 (mKeep_trans (mKeep_in hk1 (by omega) (by omega)) hk2)
  · have hX1 := XR_patch hX hk1 hP1
    simp (disch := omega) only [↓EVi, ↓EVc, ↓ft_X6_push, ↓reduceIte, ↓EV_obs, ↓EV_obn, ↓EV_ais, ↓EV_ain, mdF, mRun, List.mem_cons, List.not_mem_nil, or_false, mtab_eq, Nat.reduceEqDiff, Nat.zero_add, hd1, mset2, b10, b00, not_true_eq_false, not_false_eq_true, true_implies, false_implies, implies_true, and_true, true_and, Nat.le_refl, true_or, or_true, eq_self, List.length_cons, List.length_nil, Nat.reduceAdd, Nat.reduceLT, Nat.reduceLeDiff]
    rw [e, aRepl_none] at hp
    exact hp h1 hX1 (mKeep_in hk1 (by omega) (by omega))
set_option maxRecDepth 10000 in
theorem X_add {f k i m : Int32} (hd : 6 ≤ d) (hI : SInv S) (hX : XR h G B S) (hp : ∀ h', XR h' G B (aAdd f k i m S).2 → mKeep h h' B (B + 136) → post (some (.int (aAdd f k i m S).1)) h') : MC G MX6_add d 0 0 [.ref B, .int f, .int k, .int i, .int m] h N post := by
  have h0 := hX.1
  have h8 := hI.1
  have hd1 : 1 ≤ d := by omega
  have hfa := hX.2.2.2.1
  unfold aAdd at hp
  refine MC.of (L0 := [some (.ref B), some (.int f), some (.int k), some (.int i), some (.int m)]) gd_X6_add (Nat.le_of_ble_eq_true rfl) rfl (MW.run gd_X6_add [36, 59] 40 ?_)
  simp (disch := omega) only [↓EVi, ↓EVc, ↓ft_X6_add, ↓reduceIte, ↓EV_obs, ↓EV_obn, ↓EV_ais, ↓EV_ain, ↓EV_ob h0, mdF, mRun, List.mem_cons, List.not_mem_nil, or_false, mtab_eq, Nat.reduceEqDiff, Nat.zero_add, xO, hd1, mset2, b10, b00, not_true_eq_false, not_false_eq_true, true_implies, false_implies, implies_true, and_true, true_and, Nat.le_refl, true_or, or_true, eq_self, List.length_cons, List.length_nil, Nat.reduceAdd, Nat.reduceLT, Nat.reduceLeDiff]
  refine x_isFront hX ?_
  rcases isF_c S f hI with c | ⟨q, hq, rfl, c, hfr⟩
  · rw [if_neg (fun z => c z.1)] at hp
    rw [if_neg c]
    simp (disch := omega) only [↓EVi, ↓EVc, ↓ft_X6_add, ↓reduceIte, ↓EV_obs, ↓EV_obn, ↓EV_ais, ↓EV_ain, ↓EV_ob h0, mdF, mRun, List.mem_cons, List.not_mem_nil, or_false, mtab_eq, Nat.reduceEqDiff, Nat.zero_add, xO, hd1, mset2, b10, b00, not_true_eq_false, not_false_eq_true, true_implies, false_implies, implies_true, and_true, true_and, Nat.le_refl, true_or, or_true, eq_self, List.length_cons, List.length_nil, Nat.reduceAdd, Nat.reduceLT, Nat.reduceLeDiff]
    exact hp h hX mKeep_rfl
  rw [if_pos c]
  have hcq : (nI q).toNatClampNeg = q := nI_clamp (by omega)
  have vq : vp_in (nI q) 8 := vp_in_nI (by omega) (by decide)
  have hw := hI.2.1 q hq
  have b := vld_bd hw.1
  have hF := hX.2.2.2.2.2.2.2.2.2.2 q hq
  obtain ⟨hv, K, P, A, ⟨g0, g1, g2, g3⟩, hKP, hA⟩ := id hF
  have g0' : h (xF B (nI q).toNatClampNeg) = some (.inr (0, [.ref (xF B q + 1), .ref (xF B q + 2), .ref (xF B q + 3), .int (nI (S.1.getD q []).length), .int (nI (crs (S.1.getD q [])))])) := by rw [hcq]; exact g0
  rw [hfr] at hp
  simp (disch := omega) only [↓EVi, ↓EVc, ↓ft_X6_add, ↓reduceIte, ↓EV_obs, ↓EV_obn, ↓EV_ais, ↓EV_ain, ↓EV_ob h0, ↓EV_ob g0', ↓EV_ar hfa, ↓EV_arn, mdF, mRun, List.mem_cons, List.not_mem_nil, or_false, mtab_eq, Nat.reduceEqDiff, Nat.zero_add, xO, hd1, vq, mset2, b10, b00, not_true_eq_false, not_false_eq_true, true_implies, false_implies, implies_true, and_true, true_and, Nat.le_refl, true_or, or_true, eq_self, List.length_cons, List.length_nil, Nat.reduceAdd, Nat.reduceLT, Nat.reduceLeDiff]
  by_cases c1 : k < 0
  · rw [if_neg (fun z => absurd c1 (by rw [Int32.not_lt]; exact z.2.1.1))] at hp
    simp only [c1, not_true_eq_false, true_implies, false_implies, and_true]
    exact hp h hX mKeep_rfl
  simp only [c1, not_false_eq_true, true_implies, false_implies, true_and]
  refine ⟨fun c2 => ?_, fun c2 => ?_⟩
  · rw [if_neg (fun z => absurd z.2.1.2 (by rw [Int32.not_le]; exact c2))] at hp
    exact hp h hX mKeep_rfl
  by_cases c3 : i < 0
  · rw [if_neg (fun z => absurd c3 (by rw [Int32.not_lt]; exact z.2.2.1.1))] at hp
    simp only [c3, not_true_eq_false, true_implies, false_implies, and_true]
    exact hp h hX mKeep_rfl
  simp only [c3, not_false_eq_true, true_implies, false_implies, true_and]
  refine ⟨fun c4 => ?_, fun c4 => ?_⟩
  case refine_2 =>
    rw [if_neg (fun z => c4 z.2.2.1.2)] at hp
    exact hp h hX mKeep_rfl
  have ck : 0 ≤ k ∧ k ≤ 3 := ⟨by rw [← Int32.not_lt]; exact c1, by rw [← Int32.not_lt]; exact c2⟩
  have cii : 0 ≤ i ∧ i ≤ nI (S.1.getD q []).length := ⟨by rw [← Int32.not_lt]; exact c3, c4⟩
  obtain ⟨j, hj, rfl⟩ := arg_le i _ (by omega) cii
  obtain ⟨r, hr, rfl⟩ := arg_le k 3 (by decide) ck
  rw [nI_clamp (n := q) (by omega), nI_clamp (n := j) (by omega), nI_clamp (n := r) (by omega)] at hp
  have hA10 := (vld_le hw.1 j hj).2.1
  have cj : (nI j).toNatClampNeg = j := nI_clamp (by omega)
  have vj : vp_in (nI j) 31 := vp_in_nI (by omega) (by decide)
  have eA : A j = nI (ahL ((S.1.getD q []).take j)) := hA j hj
  refine MW.run1 gd_X6_add [59] 20 ?_
  simp (disch := omega) only [↓EVi, ↓EVc, ↓ft_X6_add, ↓reduceIte, ↓EV_obs, ↓EV_obn, ↓EV_ais, ↓EV_ain, ↓EV_ob h0, ↓EV_ob g0', ↓EV_ar hfa, ↓EV_arn, ↓EV_ai g3, mdF, mRun, List.mem_cons, List.not_mem_nil, or_false, mtab_eq, Nat.reduceEqDiff, Nat.zero_add, xO, hd1, vq, cj, vj, eA, mset2, b10, b00, not_true_eq_false, not_false_eq_true, true_implies, false_implies, implies_true, and_true, true_and, Nat.le_refl, true_or, or_true, eq_self, List.length_cons, List.length_nil, Nat.reduceAdd, Nat.reduceLT, Nat.reduceLeDiff]
  by_cases c5 : m < 0
  · rw [if_neg (fun z => absurd c5 (by rw [Int32.not_lt]; exact z.2.2.2.1))] at hp
    simp only [c5, not_true_eq_false, true_implies, false_implies, and_true]
    exact hp h hX mKeep_rfl
  simp only [c5, not_false_eq_true, true_implies, false_implies, true_and]
  refine ⟨fun c6 => ?_, fun c6 => ?_⟩
  case refine_2 =>
    rw [if_neg (fun z => c6 z.2.2.2.2)] at hp
    exact hp h hX mKeep_rfl
  have cm : 0 ≤ m ∧ m < nI (ahL ((S.1.getD q []).take j)) := ⟨by rw [← Int32.not_lt]; exact c5, c6⟩
  rw [if_pos ⟨c, ck, cii, cm⟩] at hp
  obtain ⟨t, ht, rfl⟩ := (arg_ix m (n := ahL ((S.1.getD q []).take j)) (by omega)).resolve_left (fun z => z cm)
  rw [nI_clamp (n := t) (by omega)] at hp
  have hP := hX.2.2.2.2.2.1
  obtain ⟨PK, PQ, pn, pg, pp0, -⟩ := id hP
  refine MW.run1 gd_X6_add [] 20 ?_
  simp (disch := omega) only [↓EVi, ↓EVc, ↓ft_X6_add, ↓reduceIte, ↓EV_obs, ↓EV_obn, ↓EV_ais, ↓EV_ain, ↓EV_ob h0, ↓EV_ob pp0, mdF, mRun, List.mem_cons, List.not_mem_nil, or_false, mtab_eq, Nat.reduceEqDiff, Nat.zero_add, xO, hd1, mset2, b10, b00, not_true_eq_false, not_false_eq_true, true_implies, false_implies, implies_true, and_true, true_and, Nat.le_refl, true_or, or_true, eq_self, List.length_cons, List.length_nil, Nat.reduceAdd, Nat.reduceLT, Nat.reduceLeDiff]
  refine p_planAdd (by omega) hP hr (by omega) (fun h1 hP1 hk1 => ?_)
  have hX1 := XR_patch hX hk1 (PR_A hP1)
  simp (disch := omega) only [↓EVi, ↓EVc, ↓ft_X6_add, ↓reduceIte, ↓EV_obs, ↓EV_obn, ↓EV_ais, ↓EV_ain, ↓EV_ob hX1.1, mdF, mRun, List.mem_cons, List.not_mem_nil, or_false, mtab_eq, Nat.reduceEqDiff, Nat.zero_add, xO, hd1, mset2, b10, b00, not_true_eq_false, not_false_eq_true, true_implies, false_implies, implies_true, and_true, true_and, Nat.le_refl, true_or, or_true, eq_self, List.length_cons, List.length_nil, Nat.reduceAdd, Nat.reduceLT, Nat.reduceLeDiff]
  refine x_applyPatch (by omega) hI hX1 hq hP1 (by omega) (fun h2 hX2 hk2 => ?_)
  simp (disch := omega) only [↓EVi, ↓EVc, ↓ft_X6_add, ↓reduceIte, ↓EV_obs, ↓EV_obn, ↓EV_ais, ↓EV_ain, mdF, mRun, List.mem_cons, List.not_mem_nil, or_false, mtab_eq, Nat.reduceEqDiff, Nat.zero_add, hd1, mset2, b10, b00, not_true_eq_false, not_false_eq_true, true_implies, false_implies, implies_true, and_true, true_and, Nat.le_refl, true_or, or_true, eq_self, List.length_cons, List.length_nil, Nat.reduceAdd, Nat.reduceLT, Nat.reduceLeDiff]
  exact hp h2 hX2 (mKeep_trans (mKeep_in hk1 (by omega) (by omega)) hk2)
end XS
