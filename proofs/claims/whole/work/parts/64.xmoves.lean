/-! the class: join, move, add, push -/
section XS
variable {G : mG} {d N B : Nat} {S : AS} {h : mH} {post : Option Value → mH → Prop}
theorem clear_R {h h1 : mH} {G : mG} {F : Nat} {K P A : Nat → Int32} (hC : FrontC h1 G F K P (upd A 0 0) 0 0) : FrontR h1 G F [] := by
  refine ⟨vld_nil, K, P, upd A 0 0, hC, fun i hi => absurd hi (Nat.not_lt_zero i), fun i hi => ?_⟩
  have : i = 0 := by simpa using hi
  subst this
  rw [pk_us]
  rfl
theorem drop_take_all {es : List Ev} {a : Nat} : (es.drop a).take (es.length - a) = es.drop a := List.take_of_length_le (by rw [List.length_drop]; omega)
set_option maxRecDepth 10000 in
theorem X_join {f g : Int32} (hd : 5 ≤ d) (hI : SInv S) (hX : XR h G B S) (hp : ∀ h', XR h' G B (aJoin f g S).2 → mKeep h h' B (B + 136) → post (some (.int (aJoin f g S).1)) h') : MC G MX6_join d 0 0 [.ref B, .int f, .int g] h N post := by
  have h0 := hX.1
  have h8 := hI.1
  have hd1 : 1 ≤ d := by omega
  have hfa := hX.2.2.2.1
  unfold aJoin at hp
  refine MC.of (L0 := [some (.ref B), some (.int f), some (.int g), none]) gd_X6_join (Nat.le_of_ble_eq_true rfl) rfl (MW.run gd_X6_join [84] 40 ?_)
  simp (disch := omega) only [↓EVi, ↓EVc, ↓ft_X6_join, ↓reduceIte, ↓EV_obs, ↓EV_obn, ↓EV_ais, ↓EV_ain, ↓EV_ob h0, mdF, mRun, List.mem_cons, List.not_mem_nil, or_false, mtab_eq, Nat.reduceEqDiff, Nat.zero_add, xO, hd1, mset2, b10, b00, not_true_eq_false, not_false_eq_true, true_implies, false_implies, implies_true, and_true, true_and, Nat.le_refl, true_or, or_true, eq_self, List.length_cons, List.length_nil, Nat.reduceAdd, Nat.reduceLT, Nat.reduceLeDiff]
  refine x_isFront hX ?_
  rcases isF_c S f hI with c | ⟨q, hq, rfl, c, hfr⟩
  · rw [if_neg (fun z => c z.1)] at hp
    rw [if_neg c]
    simp (disch := omega) only [↓EVi, ↓EVc, ↓ft_X6_join, ↓reduceIte, ↓EV_obs, ↓EV_obn, ↓EV_ais, ↓EV_ain, ↓EV_ob h0, mdF, mRun, List.mem_cons, List.not_mem_nil, or_false, mtab_eq, Nat.reduceEqDiff, Nat.zero_add, xO, hd1, mset2, b10, b00, not_true_eq_false, not_false_eq_true, true_implies, false_implies, implies_true, and_true, true_and, Nat.le_refl, true_or, or_true, eq_self, List.length_cons, List.length_nil, Nat.reduceAdd, Nat.reduceLT, Nat.reduceLeDiff]
    exact hp h hX mKeep_rfl
  rw [if_pos c]
  simp (disch := omega) only [↓EVi, ↓EVc, ↓ft_X6_join, ↓reduceIte, ↓EV_obs, ↓EV_obn, ↓EV_ais, ↓EV_ain, ↓EV_ob h0, mdF, mRun, List.mem_cons, List.not_mem_nil, or_false, mtab_eq, Nat.reduceEqDiff, Nat.zero_add, xO, hd1, mset2, b10, b00, not_true_eq_false, not_false_eq_true, true_implies, false_implies, implies_true, and_true, true_and, Nat.le_refl, true_or, or_true, eq_self, List.length_cons, List.length_nil, Nat.reduceAdd, Nat.reduceLT, Nat.reduceLeDiff]
  refine x_isFront hX ?_
  rcases isF_c S g hI with c2 | ⟨r, hr, rfl, c2, hgr⟩
  · rw [if_neg (fun z => c2 z.2)] at hp
    rw [if_neg c2]
    simp (disch := omega) only [↓EVi, ↓EVc, ↓ft_X6_join, ↓reduceIte, ↓EV_obs, ↓EV_obn, ↓EV_ais, ↓EV_ain, ↓EV_ob h0, mdF, mRun, List.mem_cons, List.not_mem_nil, or_false, mtab_eq, Nat.reduceEqDiff, Nat.zero_add, xO, hd1, mset2, b10, b00, not_true_eq_false, not_false_eq_true, true_implies, false_implies, implies_true, and_true, true_and, Nat.le_refl, true_or, or_true, eq_self, List.length_cons, List.length_nil, Nat.reduceAdd, Nat.reduceLT, Nat.reduceLeDiff]
    exact hp h hX mKeep_rfl
  rw [if_pos c2]
  rw [if_pos ⟨c, c2⟩, hfr, hgr] at hp
  have hcq : (nI q).toNatClampNeg = q := nI_clamp (by omega)
  have hcr : (nI r).toNatClampNeg = r := nI_clamp (by omega)
  have vq : vp_in (nI q) 8 := vp_in_nI (by omega) (by decide)
  have vr : vp_in (nI r) 8 := vp_in_nI (by omega) (by decide)
  have hw := hI.2.1 q hq
  have hw2 := hI.2.1 r hr
  have b1 := vld_bd hw.1
  have b2 := vld_bd hw2.1
  have l1 := List.length_pos_iff.mpr hw.2.1
  have l2 := List.length_pos_iff.mpr hw2.2.1
  obtain ⟨K, P, A, n, x, hC⟩ := hX.2.2.2.2.1
  have dr0 := hC.1
  simp (disch := omega) only [↓EVi, ↓EVc, ↓ft_X6_join, ↓reduceIte, ↓EV_obs, ↓EV_obn, ↓EV_ais, ↓EV_ain, ↓EV_ob h0, ↓EV_ob dr0, mdF, mRun, List.mem_cons, List.not_mem_nil, or_false, mtab_eq, Nat.reduceEqDiff, Nat.zero_add, xO, hd1, mset2, b10, b00, not_true_eq_false, not_false_eq_true, true_implies, false_implies, implies_true, and_true, true_and, Nat.le_refl, true_or, or_true, eq_self, List.length_cons, List.length_nil, Nat.reduceAdd, Nat.reduceLT, Nat.reduceLeDiff]
  refine t_clear hC (fun h1 hC1 hk1 => ?_)
  have hR1 := clear_R (h := h) hC1
  have hX1 := XR_draft hX hk1 (FR_A hR1)
  have h01 := hX1.1
  have hfa1 := hX1.2.2.2.1
  have hF1 := hX1.2.2.2.2.2.2.2.2.2.2 q hq
  obtain ⟨-, Kq, Pq, Aq, ⟨gq0, -⟩, -⟩ := id hF1
  have gq0' : h1 (xF B (nI q).toNatClampNeg) = some (.inr (0, [.ref (xF B q + 1), .ref (xF B q + 2), .ref (xF B q + 3), .int (nI (S.1.getD q []).length), .int (nI (crs (S.1.getD q [])))])) := by rw [hcq]; exact gq0
  have dr1 := hC1.1
  simp (disch := omega) only [↓EVi, ↓EVc, ↓ft_X6_join, ↓reduceIte, ↓EV_obs, ↓EV_obn, ↓EV_ais, ↓EV_ain, ↓EV_ob h01, ↓EV_ob gq0', ↓EV_ob dr1, ↓EV_ar hfa1, ↓EV_arn, mdF, mRun, List.mem_cons, List.not_mem_nil, or_false, mtab_eq, Nat.reduceEqDiff, Nat.zero_add, xO, hd1, vq, mset2, b10, b00, not_true_eq_false, not_false_eq_true, true_implies, false_implies, implies_true, and_true, true_and, Nat.le_refl, true_or, or_true, eq_self, List.length_cons, List.length_nil, Nat.reduceAdd, Nat.reduceLT, Nat.reduceLeDiff]
  rw [hcq, show nI (S.1.getD q []).length - 1 = nI ((S.1.getD q []).length - 1) from pk_sub (b := 1) l1, show (0 : Int32) = nI 0 from rfl]
  -- what comes of it
  have e1 : ((S.1.getD q []).drop 0).take ((S.1.getD q []).length - 1 - 0) = (S.1.getD q []).take ((S.1.getD q []).length - 1) := by rw [List.drop_zero, Nat.sub_zero]
  have hlq : ((S.1.getD q []).take ((S.1.getD q []).length - 1)).length = (S.1.getD q []).length - 1 := by rw [List.length_take]; omega
  have ok1 : allOk [] ((S.1.getD q []).take ((S.1.getD q []).length - 1)) := by
    have := (vld_app (es := []) ((S.1.getD q []).take ((S.1.getD q []).length - 1))).mp (by rw [List.nil_append]; exact vld_take hw.1 _)
    exact this.2
  have sq := ((vld_iff _).mp hw.1).1
  have sr := ((vld_iff _).mp hw2.1).1
  have lastq : S.1.getD q [] = (S.1.getD q []).take ((S.1.getD q []).length - 1) ++ (S.1.getD q []).drop ((S.1.getD q []).length - 1) := (List.take_append_drop _ _).symm
  have ldq : ((S.1.getD q []).drop ((S.1.getD q []).length - 1)) = [(evK (S.1.getD q []) ((S.1.getD q []).length - 1), evP (S.1.getD q []) ((S.1.getD q []).length - 1))] := by
    have := dt1 (es := S.1.getD q []) (i := (S.1.getD q []).length - 1) (by omega)
    rw [← this]
    exact (List.take_of_length_le (by rw [List.length_drop]; omega)).symm
  have lq := ev_ok hw.1 (x := (S.1.getD q []).length - 1) (by omega)
  have elq : (S.1.getD q []).length - 1 + 1 = (S.1.getD q []).length := by omega
  rw [elq, aN_full, hw.2.2] at lq
  have kq : evK (S.1.getD q []) ((S.1.getD q []).length - 1) = 2 ∧ aN (S.1.getD q []) ((S.1.getD q []).length - 1) = 2 := by
    obtain ⟨m1, m2, m3, m4, m5⟩ := lq
    rcases (by omega : evK (S.1.getD q []) ((S.1.getD q []).length - 1) = 0 ∨ evK (S.1.getD q []) ((S.1.getD q []).length - 1) = 1 ∨ evK (S.1.getD q []) ((S.1.getD q []).length - 1) = 2) with z | z | z
    · have := m3 z
      omega
    · have := m4 z
      omega
    · have := m5 z
      exact ⟨z, by omega⟩
  have fr0 := ev_ok hw2.1 (x := 0) l2
  rw [aN_zero] at fr0
  have kr : evK (S.1.getD r []) 0 = 0 ∧ aN (S.1.getD r []) 1 = 2 := by
    obtain ⟨m1, m2, m3, m4, m5⟩ := fr0
    rcases (by omega : evK (S.1.getD r []) 0 = 0 ∨ evK (S.1.getD r []) 0 = 1 ∨ evK (S.1.getD r []) 0 = 2) with z | z | z
    · exact ⟨z, (m3 z).2.2⟩
    · have := m4 z
      omega
    · have := m5 z
      omega
  have headr : S.1.getD r [] = (evK (S.1.getD r []) 0, evP (S.1.getD r []) 0) :: (S.1.getD r []).drop 1 := by
    have := dtS (es := S.1.getD r []) (i := 0) (g := (S.1.getD r []).length - 1) l2
    rw [List.drop_zero, Nat.zero_add, Nat.sub_add_cancel l2, List.take_length] at this
    rw [List.take_of_length_le (by rw [List.length_drop]; omega)] at this
    exact this
  have ahq : ahL ((S.1.getD q []).take ((S.1.getD q []).length - 1)) = 2 := kq.2
  have ok2 : allOk ((S.1.getD q []).take ((S.1.getD q []).length - 1)) ((S.1.getD r []).drop 1) ↔ ¬ (32 < (S.1.getD q []).length + (S.1.getD r []).length ∨ 12 < crs (S.1.getD q []) + crs (S.1.getD r [])) := by
    have cq : crs (S.1.getD q []) = crs ((S.1.getD q []).take ((S.1.getD q []).length - 1)) := by
      have := congrArg crs lastq
      rw [crs_app, ldq, crs_cons, crs_nil, if_neg (show ¬ evK (S.1.getD q []) ((S.1.getD q []).length - 1) = 1 by rw [kq.1]; decide)] at this
      omega
    have cr : crs (S.1.getD r []) = crs ((S.1.getD r []).drop 1) := by
      have := congrArg crs headr
      rw [crs_cons, if_neg (show ¬ evK (S.1.getD r []) 0 = 1 by rw [kr.1]; decide)] at this
      omega
    have vt := vld_bd (vld_take hw.1 ((S.1.getD q []).length - 1))
    rw [allOk_iff _ _ vt.1 vt.2.2, ahq, hlq, List.length_drop]
    have s2 : sS 2 ((S.1.getD r []).drop 1) := by
      rw [headr] at sr
      have := sr.2
      rw [show stp 0 (evK (S.1.getD r []) 0, evP (S.1.getD r []) 0).1 = 2 by show stp 0 (evK (S.1.getD r []) 0) = 2; rw [kr.1]; rfl] at this
      exact this
    exact ⟨fun z => by omega, fun z => ⟨s2, by omega, by omega⟩⟩
  refine c_appendRange (a := 0) (by omega) (by unfold xF; omega) (by omega) (Nat.zero_le _) hR1 hF1 (fun _ h2 hF2 hk2 => ?_) (fun z => absurd (by rw [e1]; exact ok1) z)
  rw [e1, List.nil_append] at hF2
  have hX2 := XR_draft hX1 hk2 (FR_A hF2)
  have h02 := hX2.1
  have hfa2 := hX2.2.2.2.1
  have hFr := hX2.2.2.2.2.2.2.2.2.2.2 r hr
  obtain ⟨-, Kr, Pr, Ar, ⟨gr0, -⟩, -⟩ := id hFr
  obtain ⟨-, Kd, Pd, Ad, ⟨gd0, -⟩, -⟩ := id hF2
  have gr0' : h2 (xF B (nI r).toNatClampNeg) = some (.inr (0, [.ref (xF B r + 1), .ref (xF B r + 2), .ref (xF B r + 3), .int (nI (S.1.getD r []).length), .int (nI (crs (S.1.getD r [])))])) := by rw [hcr]; exact gr0
  simp (disch := omega) only [↓EVi, ↓EVc, ↓ft_X6_join, ↓reduceIte, ↓EV_obs, ↓EV_obn, ↓EV_ais, ↓EV_ain, ↓EV_ob h02, ↓EV_ob gr0', ↓EV_ob gd0, ↓EV_ar hfa2, ↓EV_arn, mdF, mRun, List.mem_cons, List.not_mem_nil, or_false, mtab_eq, Nat.reduceEqDiff, Nat.zero_add, xO, hd1, vr, mset2, b10, b00, not_true_eq_false, not_false_eq_true, true_implies, false_implies, implies_true, and_true, true_and, Nat.le_refl, true_or, or_true, eq_self, List.length_cons, List.length_nil, Nat.reduceAdd, Nat.reduceLT, Nat.reduceLeDiff]
  rw [hcr, show (1 : Int32) = nI 1 from rfl]
  have kk2 := mKeep_trans (mKeep_in hk1 (show B ≤ B + 5 by omega) (show B + 5 + 3 ≤ B + 136 by omega)) (mKeep_in hk2 (show B ≤ B + 5 by omega) (show B + 5 + 3 ≤ B + 136 by omega))
  refine c_appendRange (a := 1) (by omega) (by unfold xF; omega) (Nat.le_refl _) l2 hF2 hFr (fun z h3 hF3 hk3 => ?_) (fun z h3 es3 hF3 hk3 => ?_)
  · rw [drop_take_all] at z hF3
    have no := ok2.mp z
    have hX3 := XR_draft hX2 hk3 (FR_A hF3)
    have h03 := hX3.1
    have kk3 := mKeep_trans kk2 (mKeep_in hk3 (show B ≤ B + 5 by omega) (show B + 5 + 3 ≤ B + 136 by omega))
    simp (disch := omega) only [↓EVi, ↓EVc, ↓ft_X6_join, ↓reduceIte, ↓EV_obs, ↓EV_obn, ↓EV_ais, ↓EV_ain, ↓EV_ob h03, mdF, mRun, List.mem_cons, List.not_mem_nil, or_false, mtab_eq, Nat.reduceEqDiff, Nat.zero_add, xO, hd1, mset2, b10, b00, not_true_eq_false, not_false_eq_true, true_implies, false_implies, implies_true, and_true, true_and, Nat.le_refl, true_or, or_true, eq_self, List.length_cons, List.length_nil, Nat.reduceAdd, Nat.reduceLT, Nat.reduceLeDiff]
    refine MW.run1 gd_X6_join [] 14 ?_
    simp (disch := omega) only [↓EVk, ↓w_if_eq, ↓w_an_ite, ↓mEndK, ↓w_retK0, ↓w_fitK, ↓w_dupK, ↓w_dup2K, w_an_back, ↓EVd, ↓ft_X6_join, ↓reduceIte, ↓EV_obs, ↓EV_obn, ↓EV_ais, ↓EV_ain, ↓EV_ob h03, mdF, mRun, List.mem_cons, List.not_mem_nil, or_false, mtab_eq, Nat.reduceEqDiff, Nat.zero_add, xO, hd1, mset2, b10, b00, not_true_eq_false, not_false_eq_true, true_implies, false_implies, implies_true, and_true, true_and, Nat.le_refl, true_or, or_true, eq_self, List.length_cons, List.length_nil, Nat.reduceAdd, Nat.reduceLT, Nat.reduceLeDiff]
    refine x_keepDraft (by omega) hI hX3 hF3 (fun z8 => ?_) (fun z8 h4 hX4 hk4 => ?_)
    · simp (disch := omega) only [↓EVi, ↓EVc, ↓ft_X6_join, ↓reduceIte, ↓EV_obs, ↓EV_obn, ↓EV_ais, ↓EV_ain, mdF, mRun, List.mem_cons, List.not_mem_nil, or_false, mtab_eq, Nat.reduceEqDiff, Nat.zero_add, mset2, b10, b00, not_true_eq_false, not_false_eq_true, true_implies, false_implies, implies_true, and_true, true_and, Nat.le_refl, true_or, or_true, eq_self, List.length_cons, List.length_nil, Nat.reduceAdd, Nat.reduceLT, Nat.reduceLeDiff]
      rw [if_pos (Or.inl z8)] at hp
      exact hp h3 hX3 kk3
    · simp (disch := omega) only [↓EVi, ↓EVc, ↓ft_X6_join, ↓reduceIte, ↓EV_obs, ↓EV_obn, ↓EV_ais, ↓EV_ain, mdF, mRun, List.mem_cons, List.not_mem_nil, or_false, mtab_eq, Nat.reduceEqDiff, Nat.zero_add, mset2, b10, b00, not_true_eq_false, not_false_eq_true, true_implies, false_implies, implies_true, and_true, true_and, Nat.le_refl, true_or, or_true, eq_self, List.length_cons, List.length_nil, Nat.reduceAdd, Nat.reduceLT, Nat.reduceLeDiff]
      rw [if_neg (fun y => y.elim z8 no)] at hp
      exact hp h4 hX4 (mKeep_trans kk3 hk4)
  · rw [drop_take_all] at z
    have no : 32 < (S.1.getD q []).length + (S.1.getD r []).length ∨ 12 < crs (S.1.getD q []) + crs (S.1.getD r []) := Classical.not_not.mp (fun y => z (ok2.mpr y))
    have hX3 := XR_draft hX2 hk3 (FR_A hF3)
    simp (disch := omega) only [↓EVi, ↓EVc, ↓ft_X6_join, ↓reduceIte, ↓EV_obs, ↓EV_obn, ↓EV_ais, ↓EV_ain, mdF, mRun, List.mem_cons, List.not_mem_nil, or_false, mtab_eq, Nat.reduceEqDiff, Nat.zero_add, hd1, mset2, b10, b00, not_true_eq_false, not_false_eq_true, true_implies, false_implies, implies_true, and_true, true_and, Nat.le_refl, true_or, or_true, eq_self, List.length_cons, List.length_nil, Nat.reduceAdd, Nat.reduceLT, Nat.reduceLeDiff]
    refine MW.run1 gd_X6_join [] 14 ?_
    simp (disch := omega) only [↓EVk, ↓w_if_eq, ↓w_an_ite, ↓mEndK, ↓w_retK0, ↓w_fitK, ↓w_dupK, ↓w_dup2K, w_an_back, ↓EVd, ↓ft_X6_join, ↓reduceIte, ↓EV_obs, ↓EV_obn, ↓EV_ais, ↓EV_ain, mdF, mRun, List.mem_cons, List.not_mem_nil, or_false, mtab_eq, Nat.reduceEqDiff, Nat.zero_add, hd1, mset2, b10, b00, not_true_eq_false, not_false_eq_true, true_implies, false_implies, implies_true, and_true, true_and, Nat.le_refl, true_or, or_true, eq_self, List.length_cons, List.length_nil, Nat.reduceAdd, Nat.reduceLT, Nat.reduceLeDiff]
    rw [if_pos (Or.inr no)] at hp
    exact hp h3 hX3 (mKeep_trans kk2 (mKeep_in hk3 (by omega) (by omega)))
set_option maxRecDepth 10000 in
theorem x_applyPatch {q i g : Nat} {ps : List Ev} (hd : 4 ≤ d) (hI : SInv S) (hX : XR h G B S) (hq : q < S.1.length) (hP : PatchR h G (B + 9) g ps) (hig : i + g ≤ (S.1.getD q []).length)
    (hp : ∀ h', XR h' G B (aRepl q i (some (g, ps)) S).2 → mKeep h h' B (B + 136) → post (some (.int (aRepl q i (some (g, ps)) S).1)) h') : MC G MX6_applyPatch d 0 0 [.ref B, .int (nI q), .int (nI i)] h N post := by
  have h0 := hX.1
  have h8 := hI.1
  have hd1 : 1 ≤ d := by omega
  have hfa := hX.2.2.2.1
  have hcq : (nI q).toNatClampNeg = q := nI_clamp (by omega)
  have vq : vp_in (nI q) 8 := vp_in_nI (by omega) (by decide)
  have hw := hI.2.1 q hq
  have b1 := vld_bd hw.1
  obtain ⟨K, P, A, n, x, hC⟩ := hX.2.2.2.2.1
  have dr0 := hC.1
  have wide : ∀ {h1 h2 : mH}, mKeep h1 h2 (B + 5) (B + 5 + 3) → mKeep h1 h2 B (B + 136) := fun z => mKeep_in z (by omega) (by omega)
  refine MC.of (L0 := [some (.ref B), some (.int (nI q)), some (.int (nI i)), none, none]) gd_X6_applyPatch (Nat.le_of_ble_eq_true rfl) rfl (MW.run gd_X6_applyPatch [7, 70] 40 ?_)
  simp (disch := omega) only [↓EVi, ↓EVc, ↓ft_X6_applyPatch, ↓reduceIte, ↓EV_obs, ↓EV_obn, ↓EV_ais, ↓EV_ain, ↓EV_ob h0, ↓EV_ar hfa, ↓EV_arn, mdF, mRun, List.mem_cons, List.not_mem_nil, or_false, mtab_eq, Nat.reduceEqDiff, Nat.zero_add, xO, vq, mset2, b10, b00, not_true_eq_false, not_false_eq_true, true_implies, false_implies, implies_true, and_true, true_and, Nat.le_refl, true_or, or_true, eq_self, List.length_cons, List.length_nil, Nat.reduceAdd, Nat.reduceLT, Nat.reduceLeDiff]
  rw [hcq]
  refine MW.run1 gd_X6_applyPatch [70] 40 ?_
  simp (disch := omega) only [↓EVi, ↓EVc, ↓ft_X6_applyPatch, ↓reduceIte, ↓EV_obs, ↓EV_obn, ↓EV_ais, ↓EV_ain, ↓EV_ob h0, ↓EV_ob dr0, mdF, mRun, List.mem_cons, List.not_mem_nil, or_false, mtab_eq, Nat.reduceEqDiff, Nat.zero_add, xO, hd1, mset2, b10, b00, not_true_eq_false, not_false_eq_true, true_implies, false_implies, implies_true, and_true, true_and, Nat.le_refl, true_or, or_true, eq_self, List.length_cons, List.length_nil, Nat.reduceAdd, Nat.reduceLT, Nat.reduceLeDiff]
  refine t_clear hC (fun h1 hC1 hk1 => ?_)
  have hR1 := clear_R (h := h) hC1
  have hX1 := XR_draft hX hk1 (FR_A hR1)
  have hP1 := PatchR_keep hP hk1 (by omega)
  have h01 := hX1.1
  have hF1 := hX1.2.2.2.2.2.2.2.2.2.2 q hq
  have dr1 := hC1.1
  simp (disch := omega) only [↓EVi, ↓EVc, ↓ft_X6_applyPatch, ↓reduceIte, ↓EV_obs, ↓EV_obn, ↓EV_ais, ↓EV_ain, ↓EV_ob h01, ↓EV_ob dr1, mdF, mRun, List.mem_cons, List.not_mem_nil, or_false, mtab_eq, Nat.reduceEqDiff, Nat.zero_add, xO, hd1, mset2, b10, b00, not_true_eq_false, not_false_eq_true, true_implies, false_implies, implies_true, and_true, true_and, Nat.le_refl, true_or, or_true, eq_self, List.length_cons, List.length_nil, Nat.reduceAdd, Nat.reduceLT, Nat.reduceLeDiff]
  have e1 : ((S.1.getD q []).drop 0).take (i - 0) = (S.1.getD q []).take i := by rw [List.drop_zero, Nat.sub_zero]
  have ok1 : allOk [] ((S.1.getD q []).take i) := by
    have := (vld_app (es := []) ((S.1.getD q []).take i)).mp (by rw [List.nil_append]; exact vld_take hw.1 _)
    exact this.2
  -- the new row is a front just if all can be appended
  have vall : vld (repl (S.1.getD q []) i g ps) ↔ (allOk ((S.1.getD q []).take i) ps ∧ allOk ((S.1.getD q []).take i ++ ps) ((S.1.getD q []).drop (i + g))) := by
    unfold repl
    rw [vld_app, vld_app]
    exact ⟨fun z => ⟨z.1.2, z.2⟩, fun z => ⟨⟨vld_take hw.1 _, z.1⟩, z.2⟩⟩
  have full : ¬ vld (repl (S.1.getD q []) i g ps) → ∀ h3, XR h3 G B S → mKeep h h3 B (B + 136) → ∀ y3, MW G MX6_applyPatch (mz G d 0 0 post) 70 [some (.ref B), some (.int (nI q)), some (.int (nI i)), some (.ref (xF B q)), y3] [.int 0] h3 (N, 0, 0) := by
    intro z h3 hX3 hk3 y3
    rw [aRepl_full z] at hp
    refine MW.run1 gd_X6_applyPatch [] 12 ?_
    simp (disch := omega) only [↓EVk, ↓w_if_eq, ↓w_an_ite, ↓mEndK, ↓w_retK0, ↓w_fitK, ↓w_dupK, ↓w_dup2K, w_an_back, ↓EVd, ↓ft_X6_applyPatch, ↓reduceIte, ↓EV_obs, ↓EV_obn, ↓EV_ais, ↓EV_ain, mdF, mRun, List.mem_cons, List.not_mem_nil, or_false, mtab_eq, Nat.reduceEqDiff, Nat.zero_add, mset2, b10, b00, not_true_eq_false, not_false_eq_true, true_implies, false_implies, implies_true, and_true, true_and, Nat.le_refl, true_or, or_true, eq_self, List.length_cons, List.length_nil, Nat.reduceAdd, Nat.reduceLT, Nat.reduceLeDiff]
    exact hp h3 hX3 hk3
  rw [show (0 : Int32) = nI 0 from rfl]
  refine c_appendRange (a := 0) (by omega) (by unfold xF; omega) (by omega) (Nat.zero_le _) hR1 hF1 (fun _ h2 hF2 hk2 => ?_) (fun z => absurd (by rw [e1]; exact ok1) z)
  rw [e1, List.nil_append] at hF2
  have hX2 := XR_draft hX1 hk2 (FR_A hF2)
  have hP2 := PatchR_keep hP1 hk2 (by omega)
  have h02 := hX2.1
  obtain ⟨-, Kd, Pd, Ad, ⟨gd0, -⟩, -⟩ := id hF2
  have kk2 := mKeep_trans (wide hk1) (wide hk2)
  simp (disch := omega) only [↓EVi, ↓EVc, ↓ft_X6_applyPatch, ↓reduceIte, ↓EV_obs, ↓EV_obn, ↓EV_ais, ↓EV_ain, ↓EV_ob h02, ↓EV_ob gd0, mdF, mRun, List.mem_cons, List.not_mem_nil, or_false, mtab_eq, Nat.reduceEqDiff, Nat.zero_add, xO, hd1, mset2, b10, b00, not_true_eq_false, not_false_eq_true, true_implies, false_implies, implies_true, and_true, true_and, Nat.le_refl, true_or, or_true, eq_self, List.length_cons, List.length_nil, Nat.reduceAdd, Nat.reduceLT, Nat.reduceLeDiff]
  refine c_appendPatch (by omega) (by omega) hF2 hP2 (fun z2 h3 hF3 hk3 => ?_) (fun z2 h3 es3 hF3 hk3 => ?_)
  case refine_2 =>
    simp (disch := omega) only [↓EVi, ↓EVc, ↓ft_X6_applyPatch, ↓reduceIte, ↓EV_obs, ↓EV_obn, ↓EV_ais, ↓EV_ain, mdF, mRun, List.mem_cons, List.not_mem_nil, or_false, mtab_eq, Nat.reduceEqDiff, Nat.zero_add, mset2, b10, b00, not_true_eq_false, not_false_eq_true, true_implies, false_implies, implies_true, and_true, true_and, Nat.le_refl, true_or, or_true, eq_self, List.length_cons, List.length_nil, Nat.reduceAdd, Nat.reduceLT, Nat.reduceLeDiff]
    exact full (fun y => z2 (vall.mp y).1) h3 (XR_draft hX2 hk3 (FR_A hF3)) (mKeep_trans kk2 (wide hk3)) _
  have hX3 := XR_draft hX2 hk3 (FR_A hF3)
  have hP3 := PatchR_keep hP2 hk3 (by omega)
  have h03 := hX3.1
  have hFq := hX3.2.2.2.2.2.2.2.2.2.2 q hq
  obtain ⟨-, Kq, Pq, Aq, ⟨gq0, -⟩, -⟩ := id hFq
  obtain ⟨-, Kd3, Pd3, Ad3, ⟨gd3, -⟩, -⟩ := id hF3
  obtain ⟨-, -, PK, PQ, ⟨pp0, -⟩, -⟩ := id hP3
  have kk3 := mKeep_trans kk2 (wide hk3)
  simp (disch := omega) only [↓EVi, ↓EVc, ↓ft_X6_applyPatch, ↓reduceIte, ↓EV_obs, ↓EV_obn, ↓EV_ais, ↓EV_ain, ↓EV_ob h03, ↓EV_ob gd3, ↓EV_ob gq0, ↓EV_ob pp0, mdF, mRun, List.mem_cons, List.not_mem_nil, or_false, mtab_eq, Nat.reduceEqDiff, Nat.zero_add, xO, hd1, mset2, b10, b00, not_true_eq_false, not_false_eq_true, true_implies, false_implies, implies_true, and_true, true_and, Nat.le_refl, true_or, or_true, eq_self, List.length_cons, List.length_nil, Nat.reduceAdd, Nat.reduceLT, Nat.reduceLeDiff]
  rw [nI_add]
  refine c_appendRange (a := i + g) (by omega) (by unfold xF; omega) (Nat.le_refl _) hig hF3 hFq (fun z3 h4 hF4 hk4 => ?_) (fun z3 h4 es4 hF4 hk4 => ?_)
  case refine_2 =>
    rw [drop_take_all] at z3
    simp (disch := omega) only [↓EVi, ↓EVc, ↓ft_X6_applyPatch, ↓reduceIte, ↓EV_obs, ↓EV_obn, ↓EV_ais, ↓EV_ain, mdF, mRun, List.mem_cons, List.not_mem_nil, or_false, mtab_eq, Nat.reduceEqDiff, Nat.zero_add, mset2, b10, b00, not_true_eq_false, not_false_eq_true, true_implies, false_implies, implies_true, and_true, true_and, Nat.le_refl, true_or, or_true, eq_self, List.length_cons, List.length_nil, Nat.reduceAdd, Nat.reduceLT, Nat.reduceLeDiff]
    exact full (fun y => z3 (vall.mp y).2) h4 (XR_draft hX3 hk4 (FR_A hF4)) (mKeep_trans kk3 (wide hk4)) _
  rw [drop_take_all] at z3 hF4
  have vv := vall.mpr ⟨z2, z3⟩
  rw [aRepl_some vv] at hp
  have hX4 := XR_draft hX3 hk4 (FR_A hF4)
  have h04 := hX4.1
  have hFq4 := hX4.2.2.2.2.2.2.2.2.2.2 q hq
  obtain ⟨-, Kq4, Pq4, Aq4, hCq4, -⟩ := id hFq4
  have gq4 := hCq4.1
  simp (disch := omega) only [↓EVi, ↓EVc, ↓ft_X6_applyPatch, ↓reduceIte, ↓EV_obs, ↓EV_obn, ↓EV_ais, ↓EV_ain, ↓EV_ob h04, mdF, mRun, List.mem_cons, List.not_mem_nil, or_false, mtab_eq, Nat.reduceEqDiff, Nat.zero_add, xO, hd1, mset2, b10, b00, not_true_eq_false, not_false_eq_true, true_implies, false_implies, implies_true, and_true, true_and, Nat.le_refl, true_or, or_true, eq_self, List.length_cons, List.length_nil, Nat.reduceAdd, Nat.reduceLT, Nat.reduceLeDiff]
  refine MW.run1 gd_X6_applyPatch [] 14 ?_
  simp (disch := omega) only [↓EVk, ↓w_if_eq, ↓w_an_ite, ↓mEndK, ↓w_retK0, ↓w_fitK, ↓w_dupK, ↓w_dup2K, w_an_back, ↓EVd, ↓ft_X6_applyPatch, ↓reduceIte, ↓EV_obs, ↓EV_obn, ↓EV_ais, ↓EV_ain, ↓EV_ob h04, ↓EV_ob gq4, mdF, mRun, List.mem_cons, List.not_mem_nil, or_false, mtab_eq, Nat.reduceEqDiff, Nat.zero_add, xO, hd1, mset2, b10, b00, not_true_eq_false, not_false_eq_true, true_implies, false_implies, implies_true, and_true, true_and, Nat.le_refl, true_or, or_true, eq_self, List.length_cons, List.length_nil, Nat.reduceAdd, Nat.reduceLT, Nat.reduceLeDiff]
  refine c_become (by omega) (by unfold xF; omega) hCq4 hF4 (fun h5 hF5 hk5 => ?_)
  have hX5 := XR_slot hX4 hq hk5 hF5
  obtain ⟨-, K5, P5, A5, ⟨g5, -⟩, -⟩ := id hF5
  simp (disch := omega) only [↓EVi, ↓EVc, ↓ft_X6_applyPatch, ↓reduceIte, ↓EV_obs, ↓EV_obn, ↓EV_ais, ↓EV_ain, ↓EV_ob g5, mdF, mRun, List.mem_cons, List.not_mem_nil, or_false, mtab_eq, Nat.reduceEqDiff, Nat.zero_add, mset2, b10, b00, not_true_eq_false, not_false_eq_true, true_implies, false_implies, implies_true, and_true, true_and, Nat.le_refl, true_or, or_true, eq_self, List.length_cons, List.length_nil, Nat.reduceAdd, Nat.reduceLT, Nat.reduceLeDiff]
  exact hp h5 hX5 (mKeep_trans (mKeep_trans kk3 (wide hk4)) (mKeep_in hk5 (by unfold xF; omega) (by unfold xF; omega)))
end XS
