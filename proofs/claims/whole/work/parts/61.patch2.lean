/-! Patch: planMove, planAdd, planPush -/
section PAT
variable {G : mG} {d N P F : Nat} {es : List Ev} {h : mH} {post : Option Value → mH → Prop}
set_option maxRecDepth 10000 in
theorem p_planMove {kind i : Nat} (hd : 4 ≤ d) (hFP : P + 2 < F ∨ F + 3 < P) (hF : FrontR h G F es) (hP : PA h G P) (hi : i < es.length) (hk4 : kind ≤ 4)
    (hp1 : ∀ g ps, mvP es kind i = some (g, ps) → ∀ h', PatchR h' G P g ps → mKeep h h' P (P + 2) → post (some (.int 1)) h')
    (hp0 : mvP es kind i = none → ∀ h', PA h' G P → mKeep h h' P (P + 2) → post (some (.int 0)) h') : MC G MX1_planMove d 0 0 [.ref P, .ref F, .int (nI kind), .int (nI i)] h N post := by
  have hd1 : 1 ≤ d := by omega
  obtain ⟨PK, PQ, pn, pg, p0, p1, p2⟩ := id hP
  have D := MW.dec (e := (.tableswitch 70 0 4 #[35, 42, 49, 56, 63], 36, 0, 0, 0, 0, 0)) (pc := 1) gd_X1_planMove rfl
  refine MC.of (L0 := [some (.ref P), some (.ref F), some (.int (nI kind)), some (.int (nI i))]) gd_X1_planMove (Nat.le_of_ble_eq_true rfl) rfl (MW.run gd_X1_planMove [1] 10 ?_)
  simp (disch := omega) only [↓EVi, ↓EVc, ↓ft_X1_planMove, ↓reduceIte, ↓EV_obs, ↓EV_obn, ↓EV_ais, ↓EV_ain, ↓EV_ob p0, mdF, mRun, List.mem_cons, List.not_mem_nil, or_false, mtab_eq, Nat.reduceEqDiff, Nat.zero_add, mset2, b10, b00, not_true_eq_false, not_false_eq_true, true_implies, false_implies, implies_true, and_true, true_and, Nat.le_refl, true_or, or_true, eq_self, List.length_cons, List.length_nil, Nat.reduceAdd, Nat.reduceLT, Nat.reduceLeDiff]
  rcases (by omega : kind = 0 ∨ kind = 1 ∨ kind = 2 ∨ kind = 3 ∨ kind = 4) with rfl | rfl | rfl | rfl | rfl
  · refine MW.tsw0 (tgt := 36) (off := 35) D (by decide) (by decide) rfl (by decide) (MW.run gd_X1_planMove [] 10 ?_)
    simp (disch := omega) only [↓EVi, ↓EVc, ↓ft_X1_planMove, ↓reduceIte, ↓EV_obs, ↓EV_obn, ↓EV_ais, ↓EV_ain, ↓EV_ob p0, mdF, mRun, List.mem_cons, List.not_mem_nil, or_false, mtab_eq, Nat.reduceEqDiff, Nat.zero_add, hd1, mset2, b10, b00, not_true_eq_false, not_false_eq_true, true_implies, false_implies, implies_true, and_true, true_and, Nat.le_refl, true_or, or_true, eq_self, List.length_cons, List.length_nil, Nat.reduceAdd, Nat.reduceLT, Nat.reduceLeDiff]
    refine p_planSwap (by omega) hFP hF hP hi (fun g ps e h1 hP1 hk1 => ?_) (fun e h1 hP1 hk1 => ?_)
    · simp (disch := omega) only [↓EVi, ↓EVc, ↓ft_X1_planMove, ↓reduceIte, ↓EV_obs, ↓EV_obn, ↓EV_ais, ↓EV_ain, mdF, mRun, List.mem_cons, List.not_mem_nil, or_false, mtab_eq, Nat.reduceEqDiff, Nat.zero_add, hd1, mset2, b10, b00, not_true_eq_false, not_false_eq_true, true_implies, false_implies, implies_true, and_true, true_and, Nat.le_refl, true_or, or_true, eq_self, List.length_cons, List.length_nil, Nat.reduceAdd, Nat.reduceLT, Nat.reduceLeDiff]
      exact hp1 g ps e h1 hP1 hk1
    · simp (disch := omega) only [↓EVi, ↓EVc, ↓ft_X1_planMove, ↓reduceIte, ↓EV_obs, ↓EV_obn, ↓EV_ais, ↓EV_ain, mdF, mRun, List.mem_cons, List.not_mem_nil, or_false, mtab_eq, Nat.reduceEqDiff, Nat.zero_add, hd1, mset2, b10, b00, not_true_eq_false, not_false_eq_true, true_implies, false_implies, implies_true, and_true, true_and, Nat.le_refl, true_or, or_true, eq_self, List.length_cons, List.length_nil, Nat.reduceAdd, Nat.reduceLT, Nat.reduceLeDiff]
      exact hp0 e h1 hP1 hk1
  · refine MW.tsw0 (tgt := 43) (off := 42) D (by decide) (by decide) rfl (by decide) (MW.run gd_X1_planMove [] 10 ?_)
    simp (disch := omega) only [↓EVi, ↓EVc, ↓ft_X1_planMove, ↓reduceIte, ↓EV_obs, ↓EV_obn, ↓EV_ais, ↓EV_ain, ↓EV_ob p0, mdF, mRun, List.mem_cons, List.not_mem_nil, or_false, mtab_eq, Nat.reduceEqDiff, Nat.zero_add, hd1, mset2, b10, b00, not_true_eq_false, not_false_eq_true, true_implies, false_implies, implies_true, and_true, true_and, Nat.le_refl, true_or, or_true, eq_self, List.length_cons, List.length_nil, Nat.reduceAdd, Nat.reduceLT, Nat.reduceLeDiff]
    refine p_planSlide (by omega) hFP hF hP hi (fun g ps e h1 hP1 hk1 => ?_) (fun e h1 hP1 hk1 => ?_)
    · simp (disch := omega) only [↓EVi, ↓EVc, ↓ft_X1_planMove, ↓reduceIte, ↓EV_obs, ↓EV_obn, ↓EV_ais, ↓EV_ain, mdF, mRun, List.mem_cons, List.not_mem_nil, or_false, mtab_eq, Nat.reduceEqDiff, Nat.zero_add, hd1, mset2, b10, b00, not_true_eq_false, not_false_eq_true, true_implies, false_implies, implies_true, and_true, true_and, Nat.le_refl, true_or, or_true, eq_self, List.length_cons, List.length_nil, Nat.reduceAdd, Nat.reduceLT, Nat.reduceLeDiff]
      exact hp1 g ps e h1 hP1 hk1
    · simp (disch := omega) only [↓EVi, ↓EVc, ↓ft_X1_planMove, ↓reduceIte, ↓EV_obs, ↓EV_obn, ↓EV_ais, ↓EV_ain, mdF, mRun, List.mem_cons, List.not_mem_nil, or_false, mtab_eq, Nat.reduceEqDiff, Nat.zero_add, hd1, mset2, b10, b00, not_true_eq_false, not_false_eq_true, true_implies, false_implies, implies_true, and_true, true_and, Nat.le_refl, true_or, or_true, eq_self, List.length_cons, List.length_nil, Nat.reduceAdd, Nat.reduceLT, Nat.reduceLeDiff]
      exact hp0 e h1 hP1 hk1
  · refine MW.tsw0 (tgt := 50) (off := 49) D (by decide) (by decide) rfl (by decide) (MW.run gd_X1_planMove [] 10 ?_)
    simp (disch := omega) only [↓EVi, ↓EVc, ↓ft_X1_planMove, ↓reduceIte, ↓EV_obs, ↓EV_obn, ↓EV_ais, ↓EV_ain, ↓EV_ob p0, mdF, mRun, List.mem_cons, List.not_mem_nil, or_false, mtab_eq, Nat.reduceEqDiff, Nat.zero_add, hd1, mset2, b10, b00, not_true_eq_false, not_false_eq_true, true_implies, false_implies, implies_true, and_true, true_and, Nat.le_refl, true_or, or_true, eq_self, List.length_cons, List.length_nil, Nat.reduceAdd, Nat.reduceLT, Nat.reduceLeDiff]
    refine p_planUncurl (by omega) hFP hF hP hi (fun g ps e h1 hP1 hk1 => ?_) (fun e h1 hP1 hk1 => ?_)
    · simp (disch := omega) only [↓EVi, ↓EVc, ↓ft_X1_planMove, ↓reduceIte, ↓EV_obs, ↓EV_obn, ↓EV_ais, ↓EV_ain, mdF, mRun, List.mem_cons, List.not_mem_nil, or_false, mtab_eq, Nat.reduceEqDiff, Nat.zero_add, hd1, mset2, b10, b00, not_true_eq_false, not_false_eq_true, true_implies, false_implies, implies_true, and_true, true_and, Nat.le_refl, true_or, or_true, eq_self, List.length_cons, List.length_nil, Nat.reduceAdd, Nat.reduceLT, Nat.reduceLeDiff]
      exact hp1 g ps e h1 hP1 hk1
    · simp (disch := omega) only [↓EVi, ↓EVc, ↓ft_X1_planMove, ↓reduceIte, ↓EV_obs, ↓EV_obn, ↓EV_ais, ↓EV_ain, mdF, mRun, List.mem_cons, List.not_mem_nil, or_false, mtab_eq, Nat.reduceEqDiff, Nat.zero_add, hd1, mset2, b10, b00, not_true_eq_false, not_false_eq_true, true_implies, false_implies, implies_true, and_true, true_and, Nat.le_refl, true_or, or_true, eq_self, List.length_cons, List.length_nil, Nat.reduceAdd, Nat.reduceLT, Nat.reduceLeDiff]
      exact hp0 e h1 hP1 hk1
  · refine MW.tsw0 (tgt := 57) (off := 56) D (by decide) (by decide) rfl (by decide) (MW.run gd_X1_planMove [] 10 ?_)
    simp (disch := omega) only [↓EVi, ↓EVc, ↓ft_X1_planMove, ↓reduceIte, ↓EV_obs, ↓EV_obn, ↓EV_ais, ↓EV_ain, ↓EV_ob p0, mdF, mRun, List.mem_cons, List.not_mem_nil, or_false, mtab_eq, Nat.reduceEqDiff, Nat.zero_add, hd1, mset2, b10, b00, not_true_eq_false, not_false_eq_true, true_implies, false_implies, implies_true, and_true, true_and, Nat.le_refl, true_or, or_true, eq_self, List.length_cons, List.length_nil, Nat.reduceAdd, Nat.reduceLT, Nat.reduceLeDiff]
    refine p_planPull (by omega) hFP hF hP hi (fun g ps e h1 hP1 hk1 => ?_) (fun e h1 hP1 hk1 => ?_)
    · simp (disch := omega) only [↓EVi, ↓EVc, ↓ft_X1_planMove, ↓reduceIte, ↓EV_obs, ↓EV_obn, ↓EV_ais, ↓EV_ain, mdF, mRun, List.mem_cons, List.not_mem_nil, or_false, mtab_eq, Nat.reduceEqDiff, Nat.zero_add, hd1, mset2, b10, b00, not_true_eq_false, not_false_eq_true, true_implies, false_implies, implies_true, and_true, true_and, Nat.le_refl, true_or, or_true, eq_self, List.length_cons, List.length_nil, Nat.reduceAdd, Nat.reduceLT, Nat.reduceLeDiff]
      exact hp1 g ps e h1 hP1 hk1
    · simp (disch := omega) only [↓EVi, ↓EVc, ↓ft_X1_planMove, ↓reduceIte, ↓EV_obs, ↓EV_obn, ↓EV_ais, ↓EV_ain, mdF, mRun, List.mem_cons, List.not_mem_nil, or_false, mtab_eq, Nat.reduceEqDiff, Nat.zero_add, hd1, mset2, b10, b00, not_true_eq_false, not_false_eq_true, true_implies, false_implies, implies_true, and_true, true_and, Nat.le_refl, true_or, or_true, eq_self, List.length_cons, List.length_nil, Nat.reduceAdd, Nat.reduceLT, Nat.reduceLeDiff]
      exact hp0 e h1 hP1 hk1
  · refine MW.tsw0 (tgt := 64) (off := 63) D (by decide) (by decide) rfl (by decide) (MW.run gd_X1_planMove [] 10 ?_)
    simp (disch := omega) only [↓EVi, ↓EVc, ↓ft_X1_planMove, ↓reduceIte, ↓EV_obs, ↓EV_obn, ↓EV_ais, ↓EV_ain, ↓EV_ob p0, mdF, mRun, List.mem_cons, List.not_mem_nil, or_false, mtab_eq, Nat.reduceEqDiff, Nat.zero_add, hd1, mset2, b10, b00, not_true_eq_false, not_false_eq_true, true_implies, false_implies, implies_true, and_true, true_and, Nat.le_refl, true_or, or_true, eq_self, List.length_cons, List.length_nil, Nat.reduceAdd, Nat.reduceLT, Nat.reduceLeDiff]
    refine p_planStraighten (by omega) hFP hF hP hi (fun g ps e h1 hP1 hk1 => ?_) (fun e h1 hP1 hk1 => ?_)
    · simp (disch := omega) only [↓EVi, ↓EVc, ↓ft_X1_planMove, ↓reduceIte, ↓EV_obs, ↓EV_obn, ↓EV_ais, ↓EV_ain, mdF, mRun, List.mem_cons, List.not_mem_nil, or_false, mtab_eq, Nat.reduceEqDiff, Nat.zero_add, hd1, mset2, b10, b00, not_true_eq_false, not_false_eq_true, true_implies, false_implies, implies_true, and_true, true_and, Nat.le_refl, true_or, or_true, eq_self, List.length_cons, List.length_nil, Nat.reduceAdd, Nat.reduceLT, Nat.reduceLeDiff]
      exact hp1 g ps e h1 hP1 hk1
    · simp (disch := omega) only [↓EVi, ↓EVc, ↓ft_X1_planMove, ↓reduceIte, ↓EV_obs, ↓EV_obn, ↓EV_ais, ↓EV_ain, mdF, mRun, List.mem_cons, List.not_mem_nil, or_false, mtab_eq, Nat.reduceEqDiff, Nat.zero_add, hd1, mset2, b10, b00, not_true_eq_false, not_false_eq_true, true_implies, false_implies, implies_true, and_true, true_and, Nat.le_refl, true_or, or_true, eq_self, List.length_cons, List.length_nil, Nat.reduceAdd, Nat.reduceLT, Nat.reduceLeDiff]
      exact hp0 e h1 hP1 hk1
set_option maxRecDepth 10000 in
theorem p_planAdd {kind k : Nat} (hd : 2 ≤ d) (hP : PA h G P) (hk3 : kind ≤ 3) (hk : k < 50) (hp : ∀ h', PatchR h' G P 0 (adP kind k) → mKeep h h' P (P + 2) → post none h') : MC G MX1_planAdd d 0 0 [.ref P, .int (nI kind), .int (nI k)] h N post := by
  have hd1 : 1 ≤ d := by omega
  obtain ⟨PK, PQ, pn, pg, p0, p1, p2⟩ := id hP
  have D := MW.dec (e := (.tableswitch 75 0 2 #[26, 43, 58], 32, 0, 0, 0, 0, 0)) (pc := 6) gd_X1_planAdd rfl
  refine MC.of (L0 := [some (.ref P), some (.int (nI kind)), some (.int (nI k))]) gd_X1_planAdd (Nat.le_of_ble_eq_true rfl) rfl (MW.run gd_X1_planAdd [6] 10 ?_)
  simp (disch := omega) only [↓EVi, ↓EVc, ↓ft_X1_planAdd, ↓reduceIte, ↓EV_obs, ↓EV_obn, ↓EV_ais, ↓EV_ain, ↓EV_ob p0, mdF, mRun, List.mem_cons, List.not_mem_nil, or_false, mtab_eq, Nat.reduceEqDiff, Nat.zero_add, hd1, mset2, b10, b00, not_true_eq_false, not_false_eq_true, true_implies, false_implies, implies_true, and_true, true_and, Nat.le_refl, true_or, or_true, eq_self, List.length_cons, List.length_nil, Nat.reduceAdd, Nat.reduceLT, Nat.reduceLeDiff]
  refine p_begin (g := 0) hP rfl (fun h1 hP1 hk1 => ?_)
  obtain ⟨-, K2, Q2, ⟨r0, -⟩, -⟩ := id hP1
  simp (disch := omega) only [↓EVi, ↓EVc, ↓ft_X1_planAdd, ↓reduceIte, ↓EV_obs, ↓EV_obn, ↓EV_ais, ↓EV_ain, ↓EV_ob r0, mdF, mRun, List.mem_cons, List.not_mem_nil, or_false, mtab_eq, Nat.reduceEqDiff, Nat.zero_add, hd1, mset2, b10, b00, not_true_eq_false, not_false_eq_true, true_implies, false_implies, implies_true, and_true, true_and, Nat.le_refl, true_or, or_true, eq_self, List.length_cons, List.length_nil, Nat.reduceAdd, Nat.reduceLT, Nat.reduceLeDiff]
  rcases (by omega : kind = 0 ∨ kind = 1 ∨ kind = 2 ∨ kind = 3) with rfl | rfl | rfl | rfl
  · refine MW.tsw0 (tgt := 32) (off := 26) D (by decide) (by decide) rfl (by decide) (MW.run gd_X1_planAdd [] 20 ?_)
    simp (disch := omega) only [↓EVi, ↓EVc, ↓ft_X1_planAdd, ↓reduceIte, ↓EV_obs, ↓EV_obn, ↓EV_ais, ↓EV_ain, ↓EV_ob r0, mdF, mRun, List.mem_cons, List.not_mem_nil, or_false, mtab_eq, Nat.reduceEqDiff, Nat.zero_add, hd1, mset2, b10, b00, not_true_eq_false, not_false_eq_true, true_implies, false_implies, implies_true, and_true, true_and, Nat.le_refl, true_or, or_true, eq_self, List.length_cons, List.length_nil, Nat.reduceAdd, Nat.reduceLT, Nat.reduceLeDiff]
    refine p_putThree (by omega) hP1 (fun h2 hP2 hk2 => ?_)
    simp (disch := omega) only [↓EVi, ↓EVc, ↓ft_X1_planAdd, ↓reduceIte, ↓EV_obs, ↓EV_obn, ↓EV_ais, ↓EV_ain, mdF, mRun, List.mem_cons, List.not_mem_nil, or_false, mtab_eq, Nat.reduceEqDiff, Nat.zero_add, hd1, mset2, b10, b00, not_true_eq_false, not_false_eq_true, true_implies, false_implies, implies_true, and_true, true_and, Nat.le_refl, true_or, or_true, eq_self, List.length_cons, List.length_nil, Nat.reduceAdd, Nat.reduceLT, Nat.reduceLeDiff]
    rw [nI_1] at hP2
    exact hp h2 (PZ_R hP2 rfl (sm3 (by decide) (by omega) (by decide) (by omega) (by decide) (by omega))) (mKeep_trans hk1 hk2)
  · refine MW.tsw0 (tgt := 49) (off := 43) D (by decide) (by decide) rfl (by decide) (MW.run gd_X1_planAdd [] 20 ?_)
    simp (disch := omega) only [↓EVi, ↓EVc, ↓ft_X1_planAdd, ↓reduceIte, ↓EV_obs, ↓EV_obn, ↓EV_ais, ↓EV_ain, ↓EV_ob r0, mdF, mRun, List.mem_cons, List.not_mem_nil, or_false, mtab_eq, Nat.reduceEqDiff, Nat.zero_add, hd1, mset2, b10, b00, not_true_eq_false, not_false_eq_true, true_implies, false_implies, implies_true, and_true, true_and, Nat.le_refl, true_or, or_true, eq_self, List.length_cons, List.length_nil, Nat.reduceAdd, Nat.reduceLT, Nat.reduceLeDiff]
    refine p_putThree (by omega) hP1 (fun h2 hP2 hk2 => ?_)
    simp (disch := omega) only [↓EVi, ↓EVc, ↓ft_X1_planAdd, ↓reduceIte, ↓EV_obs, ↓EV_obn, ↓EV_ais, ↓EV_ain, mdF, mRun, List.mem_cons, List.not_mem_nil, or_false, mtab_eq, Nat.reduceEqDiff, Nat.zero_add, hd1, mset2, b10, b00, not_true_eq_false, not_false_eq_true, true_implies, false_implies, implies_true, and_true, true_and, Nat.le_refl, true_or, or_true, eq_self, List.length_cons, List.length_nil, Nat.reduceAdd, Nat.reduceLT, Nat.reduceLeDiff]
    rw [nI_1] at hP2
    exact hp h2 (PZ_R hP2 rfl (sm3 (by decide) (by omega) (by decide) (by omega) (by decide) (by omega))) (mKeep_trans hk1 hk2)
  · refine MW.tsw0 (tgt := 64) (off := 58) D (by decide) (by decide) rfl (by decide) (MW.run gd_X1_planAdd [] 20 ?_)
    simp (disch := omega) only [↓EVi, ↓EVc, ↓ft_X1_planAdd, ↓reduceIte, ↓EV_obs, ↓EV_obn, ↓EV_ais, ↓EV_ain, ↓EV_ob r0, mdF, mRun, List.mem_cons, List.not_mem_nil, or_false, mtab_eq, Nat.reduceEqDiff, Nat.zero_add, hd1, mset2, b10, b00, not_true_eq_false, not_false_eq_true, true_implies, false_implies, implies_true, and_true, true_and, Nat.le_refl, true_or, or_true, eq_self, List.length_cons, List.length_nil, Nat.reduceAdd, Nat.reduceLT, Nat.reduceLeDiff]
    refine p_put hP1 (by decide) (fun h2 hP2 hk2 => ?_)
    obtain ⟨-, K3, Q3, ⟨u0, -⟩, -⟩ := id hP2
    simp (disch := omega) only [↓EVi, ↓EVc, ↓ft_X1_planAdd, ↓reduceIte, ↓EV_obs, ↓EV_obn, ↓EV_ais, ↓EV_ain, ↓EV_ob u0, mdF, mRun, List.mem_cons, List.not_mem_nil, or_false, mtab_eq, Nat.reduceEqDiff, Nat.zero_add, hd1, mset2, b10, b00, not_true_eq_false, not_false_eq_true, true_implies, false_implies, implies_true, and_true, true_and, Nat.le_refl, true_or, or_true, eq_self, List.length_cons, List.length_nil, Nat.reduceAdd, Nat.reduceLT, Nat.reduceLeDiff]
    refine p_put hP2 (Nat.le_of_ble_eq_true rfl) (fun h3 hP3 hk3 => ?_)
    simp (disch := omega) only [↓EVi, ↓EVc, ↓ft_X1_planAdd, ↓reduceIte, ↓EV_obs, ↓EV_obn, ↓EV_ais, ↓EV_ain, mdF, mRun, List.mem_cons, List.not_mem_nil, or_false, mtab_eq, Nat.reduceEqDiff, Nat.zero_add, hd1, mset2, b10, b00, not_true_eq_false, not_false_eq_true, true_implies, false_implies, implies_true, and_true, true_and, Nat.le_refl, true_or, or_true, eq_self, List.length_cons, List.length_nil, Nat.reduceAdd, Nat.reduceLT, Nat.reduceLeDiff]
    rw [nI_1] at hP3
    exact hp h3 (PZ_R hP3 rfl (sm2 (by decide) (by omega) (by decide) (by omega))) (mKeep_trans (mKeep_trans hk1 hk2) hk3)
  · refine MW.tswD (tgt := 81) D (by decide) (by decide) (by decide) (MW.run gd_X1_planAdd [] 20 ?_)
    simp (disch := omega) only [↓EVi, ↓EVc, ↓ft_X1_planAdd, ↓reduceIte, ↓EV_obs, ↓EV_obn, ↓EV_ais, ↓EV_ain, ↓EV_ob r0, mdF, mRun, List.mem_cons, List.not_mem_nil, or_false, mtab_eq, Nat.reduceEqDiff, Nat.zero_add, hd1, mset2, b10, b00, not_true_eq_false, not_false_eq_true, true_implies, false_implies, implies_true, and_true, true_and, Nat.le_refl, true_or, or_true, eq_self, List.length_cons, List.length_nil, Nat.reduceAdd, Nat.reduceLT, Nat.reduceLeDiff]
    refine p_put hP1 (by decide) (fun h2 hP2 hk2 => ?_)
    obtain ⟨-, K3, Q3, ⟨u0, -⟩, -⟩ := id hP2
    simp (disch := omega) only [↓EVi, ↓EVc, ↓ft_X1_planAdd, ↓reduceIte, ↓EV_obs, ↓EV_obn, ↓EV_ais, ↓EV_ain, ↓EV_ob u0, mdF, mRun, List.mem_cons, List.not_mem_nil, or_false, mtab_eq, Nat.reduceEqDiff, Nat.zero_add, hd1, mset2, b10, b00, not_true_eq_false, not_false_eq_true, true_implies, false_implies, implies_true, and_true, true_and, Nat.le_refl, true_or, or_true, eq_self, List.length_cons, List.length_nil, Nat.reduceAdd, Nat.reduceLT, Nat.reduceLeDiff]
    refine p_put hP2 (Nat.le_of_ble_eq_true rfl) (fun h3 hP3 hk3 => ?_)
    simp (disch := omega) only [↓EVi, ↓EVc, ↓ft_X1_planAdd, ↓reduceIte, ↓EV_obs, ↓EV_obn, ↓EV_ais, ↓EV_ain, mdF, mRun, List.mem_cons, List.not_mem_nil, or_false, mtab_eq, Nat.reduceEqDiff, Nat.zero_add, hd1, mset2, b10, b00, not_true_eq_false, not_false_eq_true, true_implies, false_implies, implies_true, and_true, true_and, Nat.le_refl, true_or, or_true, eq_self, List.length_cons, List.length_nil, Nat.reduceAdd, Nat.reduceLT, Nat.reduceLeDiff]
    rw [nI_1] at hP3
    exact hp h3 (PZ_R hP3 rfl (sm2 (by decide) (by omega) (by decide) (by omega))) (mKeep_trans (mKeep_trans hk1 hk2) hk3)
set_option maxRecDepth 10000 in
theorem p_planBirthPush {kind k A : Nat} {g : Nat} (hd : 2 ≤ d) (hP : PZ h G P g []) (hk1 : kind ≤ 1) (hk : k < 50) (hA : A < 50)
    (hp1 : (kind = 0 ∧ 1 ≤ k → ∀ h', PatchR h' G P g [(0, k - 1), (1, k), (1, k - 1)] → mKeep h h' P (P + 2) → post (some (.int 1)) h'))
    (hp2 : (kind = 1 ∧ k < A → ∀ h', PatchR h' G P g [(0, k + 1), (1, k), (1, k + 1)] → mKeep h h' P (P + 2) → post (some (.int 1)) h'))
    (hp0 : (¬ (kind = 0 ∧ 1 ≤ k) ∧ ¬ (kind = 1 ∧ k < A) → ∀ h', PA h' G P → mKeep h h' P (P + 2) → post (some (.int 0)) h')) : MC G MX1_planBirthPush d 0 0 [.ref P, .int (nI kind), .int (nI k), .int (nI A)] h N post := by
  have hd1 : 1 ≤ d := by omega
  obtain ⟨-, K2, Q2, ⟨r0, -⟩, -⟩ := id hP
  refine MC.of (L0 := [some (.ref P), some (.int (nI kind)), some (.int (nI k)), some (.int (nI A))]) gd_X1_planBirthPush (Nat.le_of_ble_eq_true rfl) rfl (MW.run gd_X1_planBirthPush [] 40 ?_)
  rcases (by omega : kind = 0 ∨ kind = 1) with rfl | rfl
  · simp (disch := omega) only [↓EVk, ↓w_if_eq, ↓w_an_ite, ↓mEndK, ↓w_retK0, ↓w_fitK, ↓w_dupK, ↓w_dup2K, w_an_back, ↓EVd, ↓ft_X1_planBirthPush, ↓reduceIte, ↓EV_obs, ↓EV_obn, ↓EV_ais, ↓EV_ain, ↓EV_ob r0, mdF, mRun, List.mem_cons, List.not_mem_nil, or_false, mtab_eq, Nat.reduceEqDiff, Nat.zero_add, hd1, bn0, mset2, b10, b00, not_true_eq_false, not_false_eq_true, true_implies, false_implies, implies_true, and_true, true_and, Nat.le_refl, true_or, or_true, eq_self, List.length_cons, List.length_nil, Nat.reduceAdd, Nat.reduceLT, Nat.reduceLeDiff]
    refine p_putThree (by omega) hP (fun h2 hP2 hk2 => ?_)
    simp (disch := omega) only [↓EVi, ↓EVc, ↓ft_X1_planBirthPush, ↓reduceIte, ↓EV_obs, ↓EV_obn, ↓EV_ais, ↓EV_ain, mdF, mRun, List.mem_cons, List.not_mem_nil, or_false, mtab_eq, Nat.reduceEqDiff, Nat.zero_add, hd1, mset2, b10, b00, not_true_eq_false, not_false_eq_true, true_implies, false_implies, implies_true, and_true, true_and, Nat.le_refl, true_or, or_true, eq_self, List.length_cons, List.length_nil, Nat.reduceAdd, Nat.reduceLT, Nat.reduceLeDiff]
    have x1 : (nI k < 1) ↔ ¬ 1 ≤ k := by simp (disch := omega) only [z_nI, z_lit, z_neg, z_add, z_sub, z_mul, z_lt, z_le, z_eq, z_in, z_cl]; omega
    refine ⟨fun z => hp0 ⟨fun y => x1.mp z y.2, fun y => by have := y.1; omega⟩ h2 (PZ_A hP2) hk2, fun z => ?_⟩
    have z' : 1 ≤ k := Classical.not_not.mp (fun y => z (x1.mpr y))
    have en : nI k - 1 = nI (k - 1) := pk_sub (b := 1) z'
    rw [en] at hP2
    exact hp1 ⟨rfl, z'⟩ h2 (PZ_R hP2 rfl (sm3 (by decide) (by omega) (by decide) (by omega) (by decide) (by omega))) hk2
  · simp (disch := omega) only [↓EVk, ↓w_if_eq, ↓w_an_ite, ↓mEndK, ↓w_retK0, ↓w_fitK, ↓w_dupK, ↓w_dup2K, w_an_back, ↓EVd, ↓ft_X1_planBirthPush, ↓reduceIte, ↓EV_obs, ↓EV_obn, ↓EV_ais, ↓EV_ain, ↓EV_ob r0, mdF, mRun, List.mem_cons, List.not_mem_nil, or_false, mtab_eq, Nat.reduceEqDiff, Nat.zero_add, hd1, bn1, mset2, b10, b00, not_true_eq_false, not_false_eq_true, true_implies, false_implies, implies_true, and_true, true_and, Nat.le_refl, true_or, or_true, eq_self, List.length_cons, List.length_nil, Nat.reduceAdd, Nat.reduceLT, Nat.reduceLeDiff]
    refine p_putThree (by omega) hP (fun h2 hP2 hk2 => ?_)
    simp (disch := omega) only [↓EVi, ↓EVc, ↓ft_X1_planBirthPush, ↓reduceIte, ↓EV_obs, ↓EV_obn, ↓EV_ais, ↓EV_ain, mdF, mRun, List.mem_cons, List.not_mem_nil, or_false, mtab_eq, Nat.reduceEqDiff, Nat.zero_add, hd1, mset2, b10, b00, not_true_eq_false, not_false_eq_true, true_implies, false_implies, implies_true, and_true, true_and, Nat.le_refl, true_or, or_true, eq_self, List.length_cons, List.length_nil, Nat.reduceAdd, Nat.reduceLT, Nat.reduceLeDiff]
    have x1 : (nI A ≤ nI k) ↔ ¬ k < A := by simp (disch := omega) only [z_nI, z_lit, z_neg, z_add, z_sub, z_mul, z_lt, z_le, z_eq, z_in, z_cl]; omega
    refine ⟨fun z => hp0 ⟨fun y => by have := y.1; omega, fun y => x1.mp z y.2⟩ h2 (PZ_A hP2) hk2, fun z => ?_⟩
    have z' : k < A := Classical.not_not.mp (fun y => z (x1.mpr y))
    rw [nI_1] at hP2
    exact hp2 ⟨rfl, z'⟩ h2 (PZ_R hP2 rfl (sm3 (by decide) (by omega) (by decide) (by omega) (by decide) (by omega))) hk2
set_option maxRecDepth 10000 in
theorem p_planDeathPush {kind k A : Nat} {g : Nat} (hd : 2 ≤ d) (hP : PZ h G P g []) (hk1 : kind ≤ 1) (hk : k < 50) (hA : A < 50)
    (hp1 : (kind = 0 ∧ 1 ≤ k → ∀ h', PatchR h' G P g [(1, k - 1), (1, k), (2, k - 1)] → mKeep h h' P (P + 2) → post (some (.int 1)) h'))
    (hp2 : (kind = 1 ∧ k + 2 < A → ∀ h', PatchR h' G P g [(1, k + 1), (1, k), (2, k + 1)] → mKeep h h' P (P + 2) → post (some (.int 1)) h'))
    (hp0 : (¬ (kind = 0 ∧ 1 ≤ k) ∧ ¬ (kind = 1 ∧ k + 2 < A) → ∀ h', PA h' G P → mKeep h h' P (P + 2) → post (some (.int 0)) h')) : MC G MX1_planDeathPush d 0 0 [.ref P, .int (nI kind), .int (nI k), .int (nI A)] h N post := by
  have hd1 : 1 ≤ d := by omega
  obtain ⟨-, K2, Q2, ⟨r0, -⟩, -⟩ := id hP
  refine MC.of (L0 := [some (.ref P), some (.int (nI kind)), some (.int (nI k)), some (.int (nI A))]) gd_X1_planDeathPush (Nat.le_of_ble_eq_true rfl) rfl (MW.run gd_X1_planDeathPush [] 40 ?_)
  rcases (by omega : kind = 0 ∨ kind = 1) with rfl | rfl
  · simp (disch := omega) only [↓EVk, ↓w_if_eq, ↓w_an_ite, ↓mEndK, ↓w_retK0, ↓w_fitK, ↓w_dupK, ↓w_dup2K, w_an_back, ↓EVd, ↓ft_X1_planDeathPush, ↓reduceIte, ↓EV_obs, ↓EV_obn, ↓EV_ais, ↓EV_ain, ↓EV_ob r0, mdF, mRun, List.mem_cons, List.not_mem_nil, or_false, mtab_eq, Nat.reduceEqDiff, Nat.zero_add, hd1, bn0, mset2, b10, b00, not_true_eq_false, not_false_eq_true, true_implies, false_implies, implies_true, and_true, true_and, Nat.le_refl, true_or, or_true, eq_self, List.length_cons, List.length_nil, Nat.reduceAdd, Nat.reduceLT, Nat.reduceLeDiff]
    refine p_putThree (by omega) hP (fun h2 hP2 hk2 => ?_)
    simp (disch := omega) only [↓EVi, ↓EVc, ↓ft_X1_planDeathPush, ↓reduceIte, ↓EV_obs, ↓EV_obn, ↓EV_ais, ↓EV_ain, mdF, mRun, List.mem_cons, List.not_mem_nil, or_false, mtab_eq, Nat.reduceEqDiff, Nat.zero_add, hd1, mset2, b10, b00, not_true_eq_false, not_false_eq_true, true_implies, false_implies, implies_true, and_true, true_and, Nat.le_refl, true_or, or_true, eq_self, List.length_cons, List.length_nil, Nat.reduceAdd, Nat.reduceLT, Nat.reduceLeDiff]
    have x1 : (nI k < 1) ↔ ¬ 1 ≤ k := by simp (disch := omega) only [z_nI, z_lit, z_neg, z_add, z_sub, z_mul, z_lt, z_le, z_eq, z_in, z_cl]; omega
    refine ⟨fun z => hp0 ⟨fun y => x1.mp z y.2, fun y => by have := y.1; omega⟩ h2 (PZ_A hP2) hk2, fun z => ?_⟩
    have z' : 1 ≤ k := Classical.not_not.mp (fun y => z (x1.mpr y))
    have en : nI k - 1 = nI (k - 1) := pk_sub (b := 1) z'
    rw [en] at hP2
    exact hp1 ⟨rfl, z'⟩ h2 (PZ_R hP2 rfl (sm3 (by decide) (by omega) (by decide) (by omega) (by decide) (by omega))) hk2
  · simp (disch := omega) only [↓EVk, ↓w_if_eq, ↓w_an_ite, ↓mEndK, ↓w_retK0, ↓w_fitK, ↓w_dupK, ↓w_dup2K, w_an_back, ↓EVd, ↓ft_X1_planDeathPush, ↓reduceIte, ↓EV_obs, ↓EV_obn, ↓EV_ais, ↓EV_ain, ↓EV_ob r0, mdF, mRun, List.mem_cons, List.not_mem_nil, or_false, mtab_eq, Nat.reduceEqDiff, Nat.zero_add, hd1, bn1, mset2, b10, b00, not_true_eq_false, not_false_eq_true, true_implies, false_implies, implies_true, and_true, true_and, Nat.le_refl, true_or, or_true, eq_self, List.length_cons, List.length_nil, Nat.reduceAdd, Nat.reduceLT, Nat.reduceLeDiff]
    refine p_putThree (by omega) hP (fun h2 hP2 hk2 => ?_)
    simp (disch := omega) only [↓EVi, ↓EVc, ↓ft_X1_planDeathPush, ↓reduceIte, ↓EV_obs, ↓EV_obn, ↓EV_ais, ↓EV_ain, mdF, mRun, List.mem_cons, List.not_mem_nil, or_false, mtab_eq, Nat.reduceEqDiff, Nat.zero_add, hd1, mset2, b10, b00, not_true_eq_false, not_false_eq_true, true_implies, false_implies, implies_true, and_true, true_and, Nat.le_refl, true_or, or_true, eq_self, List.length_cons, List.length_nil, Nat.reduceAdd, Nat.reduceLT, Nat.reduceLeDiff]
    have x1 : (nI A ≤ nI k + 2) ↔ ¬ k + 2 < A := by simp (disch := omega) only [z_nI, z_lit, z_neg, z_add, z_sub, z_mul, z_lt, z_le, z_eq, z_in, z_cl]; omega
    refine ⟨fun z => hp0 ⟨fun y => by have := y.1; omega, fun y => x1.mp z y.2⟩ h2 (PZ_A hP2) hk2, fun z => ?_⟩
    have z' : k + 2 < A := Classical.not_not.mp (fun y => z (x1.mpr y))
    rw [nI_1] at hP2
    exact hp2 ⟨rfl, z'⟩ h2 (PZ_R hP2 rfl (sm3 (by decide) (by omega) (by decide) (by omega) (by decide) (by omega))) hk2
set_option maxRecDepth 10000 in
theorem p_planPush {kind i : Nat} (hd : 4 ≤ d) (hFP : P + 2 < F ∨ F + 3 < P) (hF : FrontR h G F es) (hP : PA h G P) (hi : i < es.length) (hk1 : kind ≤ 1)
    (hp1 : ∀ g ps, psP es kind i = some (g, ps) → ∀ h', PatchR h' G P g ps → mKeep h h' P (P + 2) → post (some (.int 1)) h')
    (hp0 : psP es kind i = none → ∀ h', PA h' G P → mKeep h h' P (P + 2) → post (some (.int 0)) h') : MC G MX1_planPush d 0 0 [.ref P, .ref F, .int (nI kind), .int (nI i)] h N post := by
  have hd1 : 1 ≤ d := by omega
  obtain ⟨PK, PQ, pn, pg, p0, p1, p2⟩ := id hP
  have hv := hF.1
  have b30 := (vld_bd hv).1
  have s0 := vld_sm hv hi
  have hA10 := (vld_le hv i (by omega)).2.1
  have ci : (nI i).toNatClampNeg = i := nI_clamp (by omega)
  have vi : vp_in (nI i) 30 := vp_in_nI (by omega) (by decide)
  have vj : vp_in (nI i) 31 := vp_in_nI (by omega) (by decide)
  have D := MW.dec (e := (.lookupswitch 53 #[(0, 25), (2, 39)], 44, 0, 0, 0, 0, 0)) (pc := 19) gd_X1_planPush rfl
  refine MC.of (L0 := [some (.ref P), some (.ref F), some (.int (nI kind)), some (.int (nI i)), none]) gd_X1_planPush (Nat.le_of_ble_eq_true rfl) rfl (MW.run gd_X1_planPush [19] 20 ?_)
  simp (disch := omega) only [↓EVi, ↓EVc, ↓ft_X1_planPush, ↓reduceIte, ↓EV_obs, ↓EV_obn, ↓EV_ais, ↓EV_ain, ↓EV_ob p0, mdF, mRun, List.mem_cons, List.not_mem_nil, or_false, mtab_eq, Nat.reduceEqDiff, Nat.zero_add, hd1, mset2, b10, b00, not_true_eq_false, not_false_eq_true, true_implies, false_implies, implies_true, and_true, true_and, Nat.le_refl, true_or, or_true, eq_self, List.length_cons, List.length_nil, Nat.reduceAdd, Nat.reduceLT, Nat.reduceLeDiff]
  refine p_begin (g := 1) hP rfl (fun h1 hP1 hk2 => ?_)
  have hF1 := FrontR_keep hF hk2 (by omega)
  obtain ⟨-, K1, Q1, A1, ⟨f0, f1, f2, f3⟩, hKP1, hA1⟩ := hF1
  obtain ⟨-, K2, Q2, ⟨r0, -⟩, -⟩ := id hP1
  have k0 : K1 i = nI (evK es i) := (hKP1 i hi).1
  have q0 : Q1 i = nI (evP es i) := (hKP1 i hi).2
  have eA : A1 i = nI (ahL (es.take i)) := hA1 i (by omega)
  simp (disch := omega) only [↓EVi, ↓EVc, ↓ft_X1_planPush, ↓reduceIte, ↓EV_obs, ↓EV_obn, ↓EV_ais, ↓EV_ain, ↓EV_ob f0, ↓EV_ai f1, ↓EV_ai f2, mdF, mRun, List.mem_cons, List.not_mem_nil, or_false, mtab_eq, Nat.reduceEqDiff, Nat.zero_add, ci, vi, k0, q0, mset2, b10, b00, not_true_eq_false, not_false_eq_true, true_implies, false_implies, implies_true, and_true, true_and, Nat.le_refl, true_or, or_true, eq_self, List.length_cons, List.length_nil, Nat.reduceAdd, Nat.reduceLT, Nat.reduceLeDiff]
  have eps : psP es kind i = (if evK es i = 0 then (if kind = 0 then (if 1 ≤ evP es i then some (1, [(0, evP es i - 1), (1, evP es i), (1, evP es i - 1)]) else none) else (if evP es i < ahL (es.take i) then some (1, [(0, evP es i + 1), (1, evP es i), (1, evP es i + 1)]) else none)) else if evK es i = 2 then (if kind = 0 then (if 1 ≤ evP es i then some (1, [(1, evP es i - 1), (1, evP es i), (2, evP es i - 1)]) else none) else (if evP es i + 2 < ahL (es.take i) then some (1, [(1, evP es i + 1), (1, evP es i), (2, evP es i + 1)]) else none)) else none) := rfl
  rcases (by omega : evK es i = 0 ∨ evK es i = 2 ∨ evK es i = 1) with he | he | he
  · rw [if_pos he] at eps
    rw [he]
    refine MW.lsw (tgt := 44) (off := 25) D (by decide) rfl (by decide) (MW.run gd_X1_planPush [] 20 ?_)
    simp (disch := omega) only [↓EVi, ↓EVc, ↓ft_X1_planPush, ↓reduceIte, ↓EV_obs, ↓EV_obn, ↓EV_ais, ↓EV_ain, ↓EV_ob f0, ↓EV_ob r0, ↓EV_ai f3, mdF, mRun, List.mem_cons, List.not_mem_nil, or_false, mtab_eq, Nat.reduceEqDiff, Nat.zero_add, ci, vj, eA, hd1, mset2, b10, b00, not_true_eq_false, not_false_eq_true, true_implies, false_implies, implies_true, and_true, true_and, Nat.le_refl, true_or, or_true, eq_self, List.length_cons, List.length_nil, Nat.reduceAdd, Nat.reduceLT, Nat.reduceLeDiff]
    refine p_planBirthPush (by omega) hP1 hk1 (by omega) (by omega) (fun z h2 hP2 hk3 => ?_) (fun z h2 hP2 hk3 => ?_) (fun z h2 hP2 hk3 => ?_)
    · simp (disch := omega) only [↓EVi, ↓EVc, ↓ft_X1_planPush, ↓reduceIte, ↓EV_obs, ↓EV_obn, ↓EV_ais, ↓EV_ain, mdF, mRun, List.mem_cons, List.not_mem_nil, or_false, mtab_eq, Nat.reduceEqDiff, Nat.zero_add, hd1, mset2, b10, b00, not_true_eq_false, not_false_eq_true, true_implies, false_implies, implies_true, and_true, true_and, Nat.le_refl, true_or, or_true, eq_self, List.length_cons, List.length_nil, Nat.reduceAdd, Nat.reduceLT, Nat.reduceLeDiff]
      exact hp1 _ _ (by rw [eps, if_pos z.1, if_pos z.2]) h2 hP2 (mKeep_trans hk2 hk3)
    · simp (disch := omega) only [↓EVi, ↓EVc, ↓ft_X1_planPush, ↓reduceIte, ↓EV_obs, ↓EV_obn, ↓EV_ais, ↓EV_ain, mdF, mRun, List.mem_cons, List.not_mem_nil, or_false, mtab_eq, Nat.reduceEqDiff, Nat.zero_add, hd1, mset2, b10, b00, not_true_eq_false, not_false_eq_true, true_implies, false_implies, implies_true, and_true, true_and, Nat.le_refl, true_or, or_true, eq_self, List.length_cons, List.length_nil, Nat.reduceAdd, Nat.reduceLT, Nat.reduceLeDiff]
      exact hp1 _ _ (by rw [eps, if_neg (by omega), if_pos z.2]) h2 hP2 (mKeep_trans hk2 hk3)
    · simp (disch := omega) only [↓EVi, ↓EVc, ↓ft_X1_planPush, ↓reduceIte, ↓EV_obs, ↓EV_obn, ↓EV_ais, ↓EV_ain, mdF, mRun, List.mem_cons, List.not_mem_nil, or_false, mtab_eq, Nat.reduceEqDiff, Nat.zero_add, hd1, mset2, b10, b00, not_true_eq_false, not_false_eq_true, true_implies, false_implies, implies_true, and_true, true_and, Nat.le_refl, true_or, or_true, eq_self, List.length_cons, List.length_nil, Nat.reduceAdd, Nat.reduceLT, Nat.reduceLeDiff]
      refine hp0 ?_ h2 hP2 (mKeep_trans hk2 hk3)
      rw [eps]
      by_cases c : kind = 0
      · rw [if_pos c, if_neg (fun y => z.1 ⟨c, y⟩)]
      · rw [if_neg c, if_neg (fun y => z.2 ⟨by omega, y⟩)]
  · rw [if_neg (by omega), if_pos he] at eps
    rw [he]
    refine MW.lsw (tgt := 58) (off := 39) D (by decide) rfl (by decide) (MW.run gd_X1_planPush [] 20 ?_)
    simp (disch := omega) only [↓EVi, ↓EVc, ↓ft_X1_planPush, ↓reduceIte, ↓EV_obs, ↓EV_obn, ↓EV_ais, ↓EV_ain, ↓EV_ob f0, ↓EV_ob r0, ↓EV_ai f3, mdF, mRun, List.mem_cons, List.not_mem_nil, or_false, mtab_eq, Nat.reduceEqDiff, Nat.zero_add, ci, vj, eA, hd1, mset2, b10, b00, not_true_eq_false, not_false_eq_true, true_implies, false_implies, implies_true, and_true, true_and, Nat.le_refl, true_or, or_true, eq_self, List.length_cons, List.length_nil, Nat.reduceAdd, Nat.reduceLT, Nat.reduceLeDiff]
    refine p_planDeathPush (by omega) hP1 hk1 (by omega) (by omega) (fun z h2 hP2 hk3 => ?_) (fun z h2 hP2 hk3 => ?_) (fun z h2 hP2 hk3 => ?_)
    · simp (disch := omega) only [↓EVi, ↓EVc, ↓ft_X1_planPush, ↓reduceIte, ↓EV_obs, ↓EV_obn, ↓EV_ais, ↓EV_ain, mdF, mRun, List.mem_cons, List.not_mem_nil, or_false, mtab_eq, Nat.reduceEqDiff, Nat.zero_add, hd1, mset2, b10, b00, not_true_eq_false, not_false_eq_true, true_implies, false_implies, implies_true, and_true, true_and, Nat.le_refl, true_or, or_true, eq_self, List.length_cons, List.length_nil, Nat.reduceAdd, Nat.reduceLT, Nat.reduceLeDiff]
      exact hp1 _ _ (by rw [eps, if_pos z.1, if_pos z.2]) h2 hP2 (mKeep_trans hk2 hk3)
    · simp (disch := omega) only [↓EVi, ↓EVc, ↓ft_X1_planPush, ↓reduceIte, ↓EV_obs, ↓EV_obn, ↓EV_ais, ↓EV_ain, mdF, mRun, List.mem_cons, List.not_mem_nil, or_false, mtab_eq, Nat.reduceEqDiff, Nat.zero_add, hd1, mset2, b10, b00, not_true_eq_false, not_false_eq_true, true_implies, false_implies, implies_true, and_true, true_and, Nat.le_refl, true_or, or_true, eq_self, List.length_cons, List.length_nil, Nat.reduceAdd, Nat.reduceLT, Nat.reduceLeDiff]
      exact hp1 _ _ (by rw [eps, if_neg (by omega), if_pos z.2]) h2 hP2 (mKeep_trans hk2 hk3)
    · simp (disch := omega) only [↓EVi, ↓EVc, ↓ft_X1_planPush, ↓reduceIte, ↓EV_obs, ↓EV_obn, ↓EV_ais, ↓EV_ain, mdF, mRun, List.mem_cons, List.not_mem_nil, or_false, mtab_eq, Nat.reduceEqDiff, Nat.zero_add, hd1, mset2, b10, b00, not_true_eq_false, not_false_eq_true, true_implies, false_implies, implies_true, and_true, true_and, Nat.le_refl, true_or, or_true, eq_self, List.length_cons, List.length_nil, Nat.reduceAdd, Nat.reduceLT, Nat.reduceLeDiff]
      refine hp0 ?_ h2 hP2 (mKeep_trans hk2 hk3)
      rw [eps]
      by_cases c : kind = 0
      · rw [if_pos c, if_neg (fun y => z.1 ⟨c, y⟩)]
      · rw [if_neg c, if_neg (fun y => z.2 ⟨by omega, y⟩)]
  · rw [if_neg (by omega), if_neg (by omega)] at eps
    rw [he]
    refine MW.lsw (tgt := 72) (off := 53) D (by decide) rfl (by decide) (MW.run gd_X1_planPush [] 20 ?_)
    simp (disch := omega) only [↓EVi, ↓EVc, ↓ft_X1_planPush, ↓reduceIte, ↓EV_obs, ↓EV_obn, ↓EV_ais, ↓EV_ain, mdF, mRun, List.mem_cons, List.not_mem_nil, or_false, mtab_eq, Nat.reduceEqDiff, Nat.zero_add, hd1, mset2, b10, b00, not_true_eq_false, not_false_eq_true, true_implies, false_implies, implies_true, and_true, true_and, Nat.le_refl, true_or, or_true, eq_self, List.length_cons, List.length_nil, Nat.reduceAdd, Nat.reduceLT, Nat.reduceLeDiff]
    exact hp0 eps h1 (PZ_A hP1) hk2
end PAT
