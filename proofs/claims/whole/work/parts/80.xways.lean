/-! the class: about, piece, number, link, sign, degree -/
section XW
variable {G : mG} {d N B : Nat} {S : AS} {h : mH} {post : Option Value → mH → Prop}
theorem XR_F (hX : XR h G B S) {q : Nat} (hq : q < S.1.length) : FrontR h G (xF B q) (S.1.getD q []) := hX.2.2.2.2.2.2.2.2.2.2 q hq
theorem WyR_A {W F : Nat} {es : List Ev} (hW : WyR h G W F es) : WA h G W := by
  obtain ⟨R, a, hB⟩ := hW
  exact ⟨_, _, _, R, a, hB.1⟩
theorem WyR_eq {h' : mH} {W F : Nat} {es : List Ev} (e : eqO h h' W (W + 45)) (hW : WyR h G W F es) : WyR h' G W F es := by
  obtain ⟨R, a, ⟨h0, h1, h2, h3⟩, hr⟩ := hW
  exact ⟨R, a, ⟨by rw [e W (by omega) (by omega)]; exact h0, by rw [e (W + 5) (by omega) (by omega)]; exact h1, fun i hi => by rw [e (W + 6 + i) (by omega) (by omega)]; exact h2 i hi, fun k hk => by rw [e (W + 37 + k) (by omega) (by omega)]; exact h3 k hk⟩, hr⟩
set_option maxRecDepth 10000 in
theorem x_traced {q : Nat} (hd : 4 ≤ d) (hI : SInv S) (hX : XR h G B S) (hq : q < S.1.length)
    (hp : ∀ h', XR h' G B S → WyR h' G (B + 12) (xF B q) (S.1.getD q []) → mKeep h h' (B + 12) (B + 57) → post (some (.ref (B + 12))) h') : MC G MX6_traced d 0 0 [.ref B, .int (nI q)] h N post := by
  have h8 := hI.1
  have hd1 : 1 ≤ d := by omega
  have h0 := hX.1
  have hfa := hX.2.2.2.1
  have hcq : (nI q).toNatClampNeg = q := nI_clamp (by omega)
  have vq : vp_in (nI q) 8 := vp_in_nI (by omega) (by decide)
  obtain ⟨wo, ac, pc, R, a, hW⟩ := id hX.2.2.2.2.2.2.1
  have w0 := hW.1
  refine MC.of (L0 := [some (.ref B), some (.int (nI q))]) gd_X6_traced (Nat.le_of_ble_eq_true rfl) rfl (MW.run gd_X6_traced [] 16 ?_)
  simp (disch := omega) only [↓EVi, ↓EVc, ↓ft_X6_traced, ↓reduceIte, ↓EV_obs, ↓EV_obn, ↓EV_ais, ↓EV_ain, ↓EV_ob h0, ↓EV_ob w0, ↓EV_ar hfa, ↓EV_arn, mdF, mRun, List.mem_cons, List.not_mem_nil, or_false, mtab_eq, Nat.reduceEqDiff, Nat.zero_add, xO, hd1, vq, hcq, mset2, b10, b00, not_true_eq_false, not_false_eq_true, true_implies, false_implies, implies_true, and_true, true_and, Nat.le_refl, true_or, or_true, eq_self, List.length_cons, List.length_nil, Nat.reduceAdd, Nat.reduceLT, Nat.reduceLeDiff]
  refine w_trace (by omega) (hI.2.1 q hq) hX.2.2.2.2.2.2.1 (XR_F hX hq) (by unfold xF; omega) (fun h1 hW1 hk1 => ?_)
  have hX1 := XR_ways hX hk1 (WyR_A hW1)
  simp (disch := omega) only [↓EVi, ↓EVc, ↓ft_X6_traced, ↓reduceIte, ↓EV_obs, ↓EV_obn, ↓EV_ais, ↓EV_ain, ↓EV_ob hX1.1, mdF, mRun, List.mem_cons, List.not_mem_nil, or_false, mtab_eq, Nat.reduceEqDiff, Nat.zero_add, xO, mset2, b10, b00, not_true_eq_false, not_false_eq_true, true_implies, false_implies, implies_true, and_true, true_and, Nat.le_refl, true_or, or_true, eq_self, List.length_cons, List.length_nil, Nat.reduceAdd, Nat.reduceLT, Nat.reduceLeDiff]
  exact hp h1 hX1 hW1 hk1
set_option maxRecDepth 10000 in
theorem x_isCross {f i : Int32} (hd : 2 ≤ d) (hI : SInv S) (hX : XR h G B S) (hp : post (some (.int (if isX S f i then 1 else 0))) h) : MC G MX6_isCross d 0 0 [.ref B, .int f, .int i] h N post := by
  have h0 := hX.1
  have h8 := hI.1
  have hd1 : 1 ≤ d := by omega
  have hfa := hX.2.2.2.1
  unfold isX at hp
  refine MC.of (L0 := [some (.ref B), some (.int f), some (.int i)]) gd_X6_isCross (Nat.le_of_ble_eq_true rfl) rfl (MW.run gd_X6_isCross [] 24 ?_)
  simp (disch := omega) only [↓EVi, ↓EVc, ↓ft_X6_isCross, ↓reduceIte, ↓EV_obs, ↓EV_obn, ↓EV_ais, ↓EV_ain, ↓EV_ob h0, mdF, mRun, List.mem_cons, List.not_mem_nil, or_false, mtab_eq, Nat.reduceEqDiff, Nat.zero_add, xO, hd1, mset2, b10, b00, not_true_eq_false, not_false_eq_true, true_implies, false_implies, implies_true, and_true, true_and, Nat.le_refl, true_or, or_true, eq_self, List.length_cons, List.length_nil, Nat.reduceAdd, Nat.reduceLT, Nat.reduceLeDiff]
  refine x_isEvent (by omega) hI hX ?_
  by_cases c : isF S f ∧ (0 ≤ i ∧ i < nI (fr S f).length)
  case neg =>
    rw [if_neg c]
    rw [if_neg (fun z => c z.1)] at hp
    simp (disch := omega) only [↓EVi, ↓EVc, ↓ft_X6_isCross, ↓reduceIte, ↓EV_obs, ↓EV_obn, ↓EV_ais, ↓EV_ain, ↓EV_ob h0, mdF, mRun, List.mem_cons, List.not_mem_nil, or_false, mtab_eq, Nat.reduceEqDiff, Nat.zero_add, xO, hd1, mset2, b10, b00, not_true_eq_false, not_false_eq_true, true_implies, false_implies, implies_true, and_true, true_and, Nat.le_refl, true_or, or_true, eq_self, List.length_cons, List.length_nil, Nat.reduceAdd, Nat.reduceLT, Nat.reduceLeDiff]
    exact hp
  rw [if_pos c]
  rcases isF_c S f hI with z | ⟨q, hq, rfl, -, hfr⟩
  · exact absurd c.1 z
  have hw := hI.2.1 q hq
  have b := vld_bd hw.1
  rw [hfr] at hp c
  rcases arg_ix i (n := (S.1.getD q []).length) (by omega) with z | ⟨j, hj, rfl⟩
  · exact absurd c.2 z
  rw [nI_clamp (n := j) (by omega)] at hp
  have sm := vld_sm hw.1 hj
  have hcq : (nI q).toNatClampNeg = q := nI_clamp (by omega)
  have vq : vp_in (nI q) 8 := vp_in_nI (by omega) (by decide)
  obtain ⟨hv, K, P, A, ⟨g0, g1, g2, g3⟩, hKP, hA⟩ := XR_F hX hq
  have g0' : h (xF B (nI q).toNatClampNeg) = some (.inr (0, [.ref (xF B q + 1), .ref (xF B q + 2), .ref (xF B q + 3), .int (nI (S.1.getD q []).length), .int (nI (crs (S.1.getD q [])))])) := by rw [hcq]; exact g0
  have ci : (nI j).toNatClampNeg = j := nI_clamp (by omega)
  have vi : vp_in (nI j) 30 := vp_in_nI (by omega) (by decide)
  have eK : K j = nI (evK (S.1.getD q []) j) := (hKP j hj).1
  simp (disch := omega) only [↓EVi, ↓EVc, ↓ft_X6_isCross, ↓reduceIte, ↓EV_obs, ↓EV_obn, ↓EV_ais, ↓EV_ain, ↓EV_ob h0, ↓EV_ob g0', ↓EV_ar hfa, ↓EV_arn, ↓EV_ai g1, mdF, mRun, List.mem_cons, List.not_mem_nil, or_false, mtab_eq, Nat.reduceEqDiff, Nat.zero_add, xO, hd1, vq, ci, vi, eK, mset2, b10, b00, not_true_eq_false, not_false_eq_true, true_implies, false_implies, implies_true, and_true, true_and, Nat.le_refl, true_or, or_true, eq_self, List.length_cons, List.length_nil, Nat.reduceAdd, Nat.reduceLT, Nat.reduceLeDiff]
  have e1 : (nI (evK (S.1.getD q []) j) = 1) ↔ evK (S.1.getD q []) j = 1 := nI_eq (b := 1) (by omega) (by omega)
  refine ⟨fun z => ?_, fun z => ?_⟩
  · rw [if_neg (fun y => z (e1.mpr y.2))] at hp
    exact hp
  · rw [if_pos ⟨c, e1.mp (Classical.not_not.mp z)⟩] at hp
    exact hp
/-- a cross that is there: its front, its place -/
theorem isX_e {f i : Int32} (hI : SInv S) (c : isX S f i) : ∃ q j, q < S.1.length ∧ f = nI q ∧ fr S f = S.1.getD q [] ∧ i = nI j ∧ j < (S.1.getD q []).length ∧ i.toNatClampNeg = j ∧ evK (S.1.getD q []) j = 1 := by
  obtain ⟨⟨c1, c2⟩, c3⟩ := c
  rcases isF_c S f hI with z | ⟨q, hq, rfl, -, hfr⟩
  · exact absurd c1 z
  have b := vld_bd (hI.2.1 q hq).1
  rw [hfr] at c2 c3
  rcases arg_ix i (n := (S.1.getD q []).length) (by omega) with z | ⟨j, hj, rfl⟩
  · exact absurd c2 z
  have e : (nI j).toNatClampNeg = j := nI_clamp (by omega)
  rw [e] at c3
  exact ⟨q, j, hq, rfl, hfr, rfl, hj, e, c3⟩
set_option maxRecDepth 10000 in
theorem X_sign {f i : Int32} (hd : 5 ≤ d) (hI : SInv S) (hX : XR h G B S) (hp : ∀ h', XR h' G B (aSign f i S).2 → mKeep h h' B (B + 136) → post (some (.int (aSign f i S).1)) h') : MC G MX6_sign d 0 0 [.ref B, .int f, .int i] h N post := by
  have h0 := hX.1
  have hd1 : 1 ≤ d := by omega
  unfold aSign at hp
  refine MC.of (L0 := [some (.ref B), some (.int f), some (.int i)]) gd_X6_sign (Nat.le_of_ble_eq_true rfl) rfl (MW.run gd_X6_sign [] 24 ?_)
  simp (disch := omega) only [↓EVi, ↓EVc, ↓ft_X6_sign, ↓reduceIte, ↓EV_obs, ↓EV_obn, ↓EV_ais, ↓EV_ain, ↓EV_ob h0, mdF, mRun, List.mem_cons, List.not_mem_nil, or_false, mtab_eq, Nat.reduceEqDiff, Nat.zero_add, xO, hd1, mset2, b10, b00, not_true_eq_false, not_false_eq_true, true_implies, false_implies, implies_true, and_true, true_and, Nat.le_refl, true_or, or_true, eq_self, List.length_cons, List.length_nil, Nat.reduceAdd, Nat.reduceLT, Nat.reduceLeDiff]
  refine x_isCross (by omega) hI hX ?_
  by_cases c : isX S f i
  case neg =>
    rw [if_neg c]
    rw [if_neg c] at hp
    simp (disch := omega) only [↓EVi, ↓EVc, ↓ft_X6_sign, ↓reduceIte, ↓EV_obs, ↓EV_obn, ↓EV_ais, ↓EV_ain, ↓EV_ob h0, mdF, mRun, List.mem_cons, List.not_mem_nil, or_false, mtab_eq, Nat.reduceEqDiff, Nat.zero_add, xO, hd1, mset2, b10, b00, not_true_eq_false, not_false_eq_true, true_implies, false_implies, implies_true, and_true, true_and, Nat.le_refl, true_or, or_true, eq_self, List.length_cons, List.length_nil, Nat.reduceAdd, Nat.reduceLT, Nat.reduceLeDiff]
    exact hp h hX mKeep_rfl
  rw [if_pos c]
  rw [if_pos c] at hp
  obtain ⟨q, j, hq, rfl, hfr, rfl, hj, ej, hK⟩ := isX_e hI c
  rw [hfr, ej] at hp
  simp (disch := omega) only [↓EVi, ↓EVc, ↓ft_X6_sign, ↓reduceIte, ↓EV_obs, ↓EV_obn, ↓EV_ais, ↓EV_ain, ↓EV_ob h0, mdF, mRun, List.mem_cons, List.not_mem_nil, or_false, mtab_eq, Nat.reduceEqDiff, Nat.zero_add, xO, hd1, mset2, b10, b00, not_true_eq_false, not_false_eq_true, true_implies, false_implies, implies_true, and_true, true_and, Nat.le_refl, true_or, or_true, eq_self, List.length_cons, List.length_nil, Nat.reduceAdd, Nat.reduceLT, Nat.reduceLeDiff]
  refine x_traced (by omega) hI hX hq (fun h1 hX1 hW1 hk1 => ?_)
  obtain ⟨R, a, hB⟩ := WyR_B hW1
  simp (disch := omega) only [↓EVi, ↓EVc, ↓ft_X6_sign, ↓reduceIte, ↓EV_obs, ↓EV_obn, ↓EV_ais, ↓EV_ain, ↓EV_ob hB.1.1, mdF, mRun, List.mem_cons, List.not_mem_nil, or_false, mtab_eq, Nat.reduceEqDiff, Nat.zero_add, hd1, mset2, b10, b00, not_true_eq_false, not_false_eq_true, true_implies, false_implies, implies_true, and_true, true_and, Nat.le_refl, true_or, or_true, eq_self, List.length_cons, List.length_nil, Nat.reduceAdd, Nat.reduceLT, Nat.reduceLeDiff]
  refine w_isPlus (by omega) (hI.2.1 q hq) (XR_F hX1 hq) hW1 hj hK ?_
  replace hp := hp h1 hX1 (mKeep_in hk1 (by omega) (by omega))
  cases hpl : plus (S.1.getD q []) j with
  | true =>
    rw [hpl] at hp
    simp only [↓reduceIte] at hp ⊢
    simp (disch := omega) only [↓EVi, ↓EVc, ↓ft_X6_sign, ↓reduceIte, ↓EV_obs, ↓EV_obn, ↓EV_ais, ↓EV_ain, mdF, mRun, List.mem_cons, List.not_mem_nil, or_false, mtab_eq, Nat.reduceEqDiff, Nat.zero_add, mset2, b10, b00, not_true_eq_false, not_false_eq_true, true_implies, false_implies, implies_true, and_true, true_and, Nat.le_refl, true_or, or_true, eq_self, List.length_cons, List.length_nil, Nat.reduceAdd, Nat.reduceLT, Nat.reduceLeDiff]
    exact hp
  | false =>
    rw [hpl] at hp
    simp only [Bool.false_eq_true, ↓reduceIte] at hp ⊢
    simp (disch := omega) only [↓EVi, ↓EVc, ↓ft_X6_sign, ↓reduceIte, ↓EV_obs, ↓EV_obn, ↓EV_ais, ↓EV_ain, mdF, mRun, List.mem_cons, List.not_mem_nil, or_false, mtab_eq, Nat.reduceEqDiff, Nat.zero_add, mset2, b10, b00, not_true_eq_false, not_false_eq_true, true_implies, false_implies, implies_true, and_true, true_and, Nat.le_refl, true_or, or_true, eq_self, List.length_cons, List.length_nil, Nat.reduceAdd, Nat.reduceLT, Nat.reduceLeDiff]
    exact hp
set_option maxRecDepth 10000 in
theorem X_degree {f i : Int32} (hd : 5 ≤ d) (hI : SInv S) (hX : XR h G B S) (hp : ∀ h', XR h' G B (aDegree f i S).2 → mKeep h h' B (B + 136) → post (some (.int (aDegree f i S).1)) h') : MC G MX6_degree d 0 0 [.ref B, .int f, .int i] h N post := by
  have h0 := hX.1
  have hd1 : 1 ≤ d := by omega
  unfold aDegree at hp
  refine MC.of (L0 := [some (.ref B), some (.int f), some (.int i)]) gd_X6_degree (Nat.le_of_ble_eq_true rfl) rfl (MW.run gd_X6_degree [] 24 ?_)
  simp (disch := omega) only [↓EVi, ↓EVc, ↓ft_X6_degree, ↓reduceIte, ↓EV_obs, ↓EV_obn, ↓EV_ais, ↓EV_ain, ↓EV_ob h0, mdF, mRun, List.mem_cons, List.not_mem_nil, or_false, mtab_eq, Nat.reduceEqDiff, Nat.zero_add, xO, hd1, mset2, b10, b00, not_true_eq_false, not_false_eq_true, true_implies, false_implies, implies_true, and_true, true_and, Nat.le_refl, true_or, or_true, eq_self, List.length_cons, List.length_nil, Nat.reduceAdd, Nat.reduceLT, Nat.reduceLeDiff]
  refine x_isCross (by omega) hI hX ?_
  by_cases c : isX S f i
  case neg =>
    rw [if_neg c]
    rw [if_neg c] at hp
    simp (disch := omega) only [↓EVi, ↓EVc, ↓ft_X6_degree, ↓reduceIte, ↓EV_obs, ↓EV_obn, ↓EV_ais, ↓EV_ain, ↓EV_ob h0, mdF, mRun, List.mem_cons, List.not_mem_nil, or_false, mtab_eq, Nat.reduceEqDiff, Nat.zero_add, xO, hd1, mset2, b10, b00, not_true_eq_false, not_false_eq_true, true_implies, false_implies, implies_true, and_true, true_and, Nat.le_refl, true_or, or_true, eq_self, List.length_cons, List.length_nil, Nat.reduceAdd, Nat.reduceLT, Nat.reduceLeDiff]
    exact hp h hX mKeep_rfl
  rw [if_pos c]
  rw [if_pos c] at hp
  obtain ⟨q, j, hq, rfl, hfr, rfl, hj, ej, hK⟩ := isX_e hI c
  rw [hfr, ej] at hp
  have hw := hI.2.1 q hq
  have hnP := nP_le hw
  have hnp := nP_pos hw
  simp (disch := omega) only [↓EVi, ↓EVc, ↓ft_X6_degree, ↓reduceIte, ↓EV_obs, ↓EV_obn, ↓EV_ais, ↓EV_ain, ↓EV_ob h0, mdF, mRun, List.mem_cons, List.not_mem_nil, or_false, mtab_eq, Nat.reduceEqDiff, Nat.zero_add, xO, hd1, mset2, b10, b00, not_true_eq_false, not_false_eq_true, true_implies, false_implies, implies_true, and_true, true_and, Nat.le_refl, true_or, or_true, eq_self, List.length_cons, List.length_nil, Nat.reduceAdd, Nat.reduceLT, Nat.reduceLeDiff]
  refine x_traced (by omega) hI hX hq (fun h1 hX1 hW1 hk1 => ?_)
  obtain ⟨R, a, hB⟩ := WyR_B hW1
  replace hp := hp h1 hX1 (mKeep_in hk1 (by omega) (by omega))
  by_cases c2 : nP (S.1.getD q []) = 1
  · have f1 : (nI (nP (S.1.getD q [])) = 1) = True := eq_true (by rw [c2]; rfl)
    rw [if_neg (by omega)] at hp
    simp (disch := omega) only [↓EVk, ↓w_if_eq, ↓w_an_ite, ↓mEndK, ↓w_retK0, ↓w_fitK, ↓w_dupK, ↓w_dup2K, w_an_back, ↓EVd, ↓ft_X6_degree, ↓reduceIte, ↓EV_obs, ↓EV_obn, ↓EV_ais, ↓EV_ain, ↓EV_ob hX1.1, ↓EV_ob hB.1.1, mdF, mRun, List.mem_cons, List.not_mem_nil, or_false, mtab_eq, Nat.reduceEqDiff, Nat.zero_add, xO, hd1, f1, mset2, b10, b00, not_true_eq_false, not_false_eq_true, true_implies, false_implies, implies_true, and_true, true_and, Nat.le_refl, true_or, or_true, eq_self, List.length_cons, List.length_nil, Nat.reduceAdd, Nat.reduceLT, Nat.reduceLeDiff]
    refine w_levelStep (by omega) hw (XR_F hX1 hq) hW1 hj hK ?_
    simp (disch := omega) only [↓EVk, ↓w_if_eq, ↓w_an_ite, ↓mEndK, ↓w_retK0, ↓w_fitK, ↓w_dupK, ↓w_dup2K, w_an_back, ↓EVd, ↓ft_X6_degree, ↓reduceIte, ↓EV_obs, ↓EV_obn, ↓EV_ais, ↓EV_ain, mdF, mRun, List.mem_cons, List.not_mem_nil, or_false, mtab_eq, Nat.reduceEqDiff, Nat.zero_add, mset2, b10, b00, not_true_eq_false, not_false_eq_true, true_implies, false_implies, implies_true, and_true, true_and, Nat.le_refl, true_or, or_true, eq_self, List.length_cons, List.length_nil, Nat.reduceAdd, Nat.reduceLT, Nat.reduceLeDiff]
    exact hp
  · have f1 : (nI (nP (S.1.getD q [])) = 1) = False := eq_false (fun z => c2 ((nI_eq (b := 1) (by omega) (by omega)).mp z))
    rw [if_pos (by omega)] at hp
    simp (disch := omega) only [↓EVk, ↓w_if_eq, ↓w_an_ite, ↓mEndK, ↓w_retK0, ↓w_fitK, ↓w_dupK, ↓w_dup2K, w_an_back, ↓EVd, ↓ft_X6_degree, ↓reduceIte, ↓EV_obs, ↓EV_obn, ↓EV_ais, ↓EV_ain, ↓EV_ob hX1.1, ↓EV_ob hB.1.1, mdF, mRun, List.mem_cons, List.not_mem_nil, or_false, mtab_eq, Nat.reduceEqDiff, Nat.zero_add, xO, hd1, f1, mset2, b10, b00, not_true_eq_false, not_false_eq_true, true_implies, false_implies, implies_true, and_true, true_and, Nat.le_refl, true_or, or_true, eq_self, List.length_cons, List.length_nil, Nat.reduceAdd, Nat.reduceLT, Nat.reduceLeDiff]
    exact hp
set_option maxRecDepth 10000 in
theorem X_piece {f i k : Int32} (hd : 5 ≤ d) (hI : SInv S) (hX : XR h G B S) (hp : ∀ h', XR h' G B (aPiece f i k S).2 → mKeep h h' B (B + 136) → post (some (.int (aPiece f i k S).1)) h') : MC G MX6_piece d 0 0 [.ref B, .int f, .int i, .int k] h N post := by
  have h0 := hX.1
  have h8 := hI.1
  have hd1 : 1 ≤ d := by omega
  have hfa := hX.2.2.2.1
  unfold aPiece at hp
  refine MC.of (L0 := [some (.ref B), some (.int f), some (.int i), some (.int k)]) gd_X6_piece (Nat.le_of_ble_eq_true rfl) rfl (MW.run gd_X6_piece [] 30 ?_)
  simp (disch := omega) only [↓EVi, ↓EVc, ↓ft_X6_piece, ↓reduceIte, ↓EV_obs, ↓EV_obn, ↓EV_ais, ↓EV_ain, ↓EV_ob h0, mdF, mRun, List.mem_cons, List.not_mem_nil, or_false, mtab_eq, Nat.reduceEqDiff, Nat.zero_add, xO, hd1, mset2, b10, b00, not_true_eq_false, not_false_eq_true, true_implies, false_implies, implies_true, and_true, true_and, Nat.le_refl, true_or, or_true, eq_self, List.length_cons, List.length_nil, Nat.reduceAdd, Nat.reduceLT, Nat.reduceLeDiff]
  refine x_isEvent (by omega) hI hX ?_
  by_cases c : isF S f ∧ (0 ≤ i ∧ i < nI (fr S f).length)
  case neg =>
    rw [if_neg c]
    rw [if_neg (fun z => c ⟨z.1, z.2.1⟩)] at hp
    simp (disch := omega) only [↓EVi, ↓EVc, ↓ft_X6_piece, ↓reduceIte, ↓EV_obs, ↓EV_obn, ↓EV_ais, ↓EV_ain, ↓EV_ob h0, mdF, mRun, List.mem_cons, List.not_mem_nil, or_false, mtab_eq, Nat.reduceEqDiff, Nat.zero_add, xO, hd1, mset2, b10, b00, not_true_eq_false, not_false_eq_true, true_implies, false_implies, implies_true, and_true, true_and, Nat.le_refl, true_or, or_true, eq_self, List.length_cons, List.length_nil, Nat.reduceAdd, Nat.reduceLT, Nat.reduceLeDiff]
    exact hp h hX mKeep_rfl
  rw [if_pos c]
  rcases isF_c S f hI with z | ⟨q, hq, rfl, -, hfr⟩
  · exact absurd c.1 z
  have hw := hI.2.1 q hq
  have b := vld_bd hw.1
  rw [hfr] at hp c
  rcases arg_ix i (n := (S.1.getD q []).length) (by omega) with z | ⟨j, hj, rfl⟩
  · exact absurd c.2 z
  rw [nI_clamp (n := j) (by omega)] at hp
  have hcq : (nI q).toNatClampNeg = q := nI_clamp (by omega)
  have vq : vp_in (nI q) 8 := vp_in_nI (by omega) (by decide)
  obtain ⟨hv, K, P, A, ⟨g0, g1, g2, g3⟩, hKP, hA⟩ := XR_F hX hq
  have g0' : h (xF B (nI q).toNatClampNeg) = some (.inr (0, [.ref (xF B q + 1), .ref (xF B q + 2), .ref (xF B q + 3), .int (nI (S.1.getD q []).length), .int (nI (crs (S.1.getD q [])))])) := by rw [hcq]; exact g0
  have ci : (nI j).toNatClampNeg = j := nI_clamp (by omega)
  have vi : vp_in (nI j) 31 := vp_in_nI (by omega) (by decide)
  have eA : A j = nI (aN (S.1.getD q []) j) := hA j (by omega)
  by_cases c1 : k < 0
  · rw [if_neg (fun z => absurd c1 (by rw [Int32.not_lt]; exact z.2.2.1))] at hp
    have f1 : (k < 0) = True := eq_true c1
    simp (disch := omega) only [↓EVk, ↓w_if_eq, ↓w_an_ite, ↓mEndK, ↓w_retK0, ↓w_fitK, ↓w_dupK, ↓w_dup2K, w_an_back, ↓EVd, ↓ft_X6_piece, ↓reduceIte, ↓EV_obs, ↓EV_obn, ↓EV_ais, ↓EV_ain, ↓EV_ob h0, mdF, mRun, List.mem_cons, List.not_mem_nil, or_false, mtab_eq, Nat.reduceEqDiff, Nat.zero_add, xO, hd1, f1, mset2, b10, b00, not_true_eq_false, not_false_eq_true, true_implies, false_implies, implies_true, and_true, true_and, Nat.le_refl, true_or, or_true, eq_self, List.length_cons, List.length_nil, Nat.reduceAdd, Nat.reduceLT, Nat.reduceLeDiff]
    exact hp h hX mKeep_rfl
  have f1 : (k < 0) = False := eq_false c1
  by_cases c2 : k < nI (aN (S.1.getD q []) j)
  · have f2 : (k < nI (aN (S.1.getD q []) j)) = True := eq_true c2
    rw [if_pos ⟨c.1, c.2, by rw [← Int32.not_lt]; exact c1, c2⟩] at hp
    have a10 := (ev_ok hw.1 hj).2.1
    rcases arg_ix k (n := aN (S.1.getD q []) j) (by omega) with z | ⟨t, ht, rfl⟩
    · exact absurd ⟨by rw [← Int32.not_lt]; exact c1, c2⟩ z
    rw [nI_clamp (n := t) (by omega)] at hp
    simp (disch := omega) only [↓EVk, ↓w_if_eq, ↓w_an_ite, ↓mEndK, ↓w_retK0, ↓w_fitK, ↓w_dupK, ↓w_dup2K, w_an_back, ↓EVd, ↓ft_X6_piece, ↓reduceIte, ↓EV_obs, ↓EV_obn, ↓EV_ais, ↓EV_ain, ↓EV_ob h0, ↓EV_ob g0', ↓EV_ar hfa, ↓EV_arn, ↓EV_ai g3, mdF, mRun, List.mem_cons, List.not_mem_nil, or_false, mtab_eq, Nat.reduceEqDiff, Nat.zero_add, xO, hd1, f1, vq, ci, vi, eA, f2, mset2, b10, b00, not_true_eq_false, not_false_eq_true, true_implies, false_implies, implies_true, and_true, true_and, Nat.le_refl, true_or, or_true, eq_self, List.length_cons, List.length_nil, Nat.reduceAdd, Nat.reduceLT, Nat.reduceLeDiff]
    refine x_traced (by omega) hI hX hq (fun h1 hX1 hW1 hk1 => ?_)
    obtain ⟨R, a, hB⟩ := WyR_B hW1
    simp (disch := omega) only [↓EVk, ↓w_if_eq, ↓w_an_ite, ↓mEndK, ↓w_retK0, ↓w_fitK, ↓w_dupK, ↓w_dup2K, w_an_back, ↓EVd, ↓ft_X6_piece, ↓reduceIte, ↓EV_obs, ↓EV_obn, ↓EV_ais, ↓EV_ain, ↓EV_ob hB.1.1, mdF, mRun, List.mem_cons, List.not_mem_nil, or_false, mtab_eq, Nat.reduceEqDiff, Nat.zero_add, hd1, mset2, b10, b00, not_true_eq_false, not_false_eq_true, true_implies, false_implies, implies_true, and_true, true_and, Nat.le_refl, true_or, or_true, eq_self, List.length_cons, List.length_nil, Nat.reduceAdd, Nat.reduceLT, Nat.reduceLeDiff]
    refine w_pieceAt hw hW1 (by omega) ht ?_
    simp (disch := omega) only [↓EVk, ↓w_if_eq, ↓w_an_ite, ↓mEndK, ↓w_retK0, ↓w_fitK, ↓w_dupK, ↓w_dup2K, w_an_back, ↓EVd, ↓ft_X6_piece, ↓reduceIte, ↓EV_obs, ↓EV_obn, ↓EV_ais, ↓EV_ain, mdF, mRun, List.mem_cons, List.not_mem_nil, or_false, mtab_eq, Nat.reduceEqDiff, Nat.zero_add, mset2, b10, b00, not_true_eq_false, not_false_eq_true, true_implies, false_implies, implies_true, and_true, true_and, Nat.le_refl, true_or, or_true, eq_self, List.length_cons, List.length_nil, Nat.reduceAdd, Nat.reduceLT, Nat.reduceLeDiff]
    exact hp h1 hX1 (mKeep_in hk1 (by omega) (by omega))
  · have f2 : (k < nI (aN (S.1.getD q []) j)) = False := eq_false c2
    rw [if_neg (fun z => c2 z.2.2.2)] at hp
    simp (disch := omega) only [↓EVk, ↓w_if_eq, ↓w_an_ite, ↓mEndK, ↓w_retK0, ↓w_fitK, ↓w_dupK, ↓w_dup2K, w_an_back, ↓EVd, ↓ft_X6_piece, ↓reduceIte, ↓EV_obs, ↓EV_obn, ↓EV_ais, ↓EV_ain, ↓EV_ob h0, ↓EV_ob g0', ↓EV_ar hfa, ↓EV_arn, ↓EV_ai g3, mdF, mRun, List.mem_cons, List.not_mem_nil, or_false, mtab_eq, Nat.reduceEqDiff, Nat.zero_add, xO, hd1, f1, vq, ci, vi, eA, f2, mset2, b10, b00, not_true_eq_false, not_false_eq_true, true_implies, false_implies, implies_true, and_true, true_and, Nat.le_refl, true_or, or_true, eq_self, List.length_cons, List.length_nil, Nat.reduceAdd, Nat.reduceLT, Nat.reduceLeDiff]
    exact hp h hX mKeep_rfl
set_option maxRecDepth 10000 in
theorem X_link {f p r : Int32} (hd : 5 ≤ d) (hI : SInv S) (hX : XR h G B S) (hp : ∀ h', XR h' G B (aLink f p r S).2 → mKeep h h' B (B + 136) → post (some (.int (aLink f p r S).1)) h') : MC G MX6_link d 0 0 [.ref B, .int f, .int p, .int r] h N post := by
  have h0 := hX.1
  have h8 := hI.1
  have hd1 : 1 ≤ d := by omega
  unfold aLink at hp
  refine MC.of (L0 := [some (.ref B), some (.int f), some (.int p), some (.int r)]) gd_X6_link (Nat.le_of_ble_eq_true rfl) rfl (MW.run gd_X6_link [] 34 ?_)
  simp (disch := omega) only [↓EVi, ↓EVc, ↓ft_X6_link, ↓reduceIte, ↓EV_obs, ↓EV_obn, ↓EV_ais, ↓EV_ain, ↓EV_ob h0, mdF, mRun, List.mem_cons, List.not_mem_nil, or_false, mtab_eq, Nat.reduceEqDiff, Nat.zero_add, xO, hd1, mset2, b10, b00, not_true_eq_false, not_false_eq_true, true_implies, false_implies, implies_true, and_true, true_and, Nat.le_refl, true_or, or_true, eq_self, List.length_cons, List.length_nil, Nat.reduceAdd, Nat.reduceLT, Nat.reduceLeDiff]
  refine x_isFront hX ?_
  rcases isF_c S f hI with c | ⟨q, hq, rfl, c, hfr⟩
  · rw [if_neg c]
    rw [if_neg (fun z => c z.1)] at hp
    simp (disch := omega) only [↓EVi, ↓EVc, ↓ft_X6_link, ↓reduceIte, ↓EV_obs, ↓EV_obn, ↓EV_ais, ↓EV_ain, ↓EV_ob h0, mdF, mRun, List.mem_cons, List.not_mem_nil, or_false, mtab_eq, Nat.reduceEqDiff, Nat.zero_add, xO, hd1, mset2, b10, b00, not_true_eq_false, not_false_eq_true, true_implies, false_implies, implies_true, and_true, true_and, Nat.le_refl, true_or, or_true, eq_self, List.length_cons, List.length_nil, Nat.reduceAdd, Nat.reduceLT, Nat.reduceLeDiff]
    exact hp h hX mKeep_rfl
  rw [if_pos c]
  rw [hfr] at hp
  have hw := hI.2.1 q hq
  have hnP := nP_le hw
  simp (disch := omega) only [↓EVi, ↓EVc, ↓ft_X6_link, ↓reduceIte, ↓EV_obs, ↓EV_obn, ↓EV_ais, ↓EV_ain, ↓EV_ob h0, mdF, mRun, List.mem_cons, List.not_mem_nil, or_false, mtab_eq, Nat.reduceEqDiff, Nat.zero_add, xO, hd1, mset2, b10, b00, not_true_eq_false, not_false_eq_true, true_implies, false_implies, implies_true, and_true, true_and, Nat.le_refl, true_or, or_true, eq_self, List.length_cons, List.length_nil, Nat.reduceAdd, Nat.reduceLT, Nat.reduceLeDiff]
  refine x_traced (by omega) hI hX hq (fun h1 hX1 hW1 hk1 => ?_)
  obtain ⟨R, a, hB⟩ := WyR_B hW1
  replace hp := hp h1 hX1 (mKeep_in hk1 (by omega) (by omega))
  simp (disch := omega) only [↓EVi, ↓EVc, ↓ft_X6_link, ↓reduceIte, ↓EV_obs, ↓EV_obn, ↓EV_ais, ↓EV_ain, ↓EV_ob hB.1.1, mdF, mRun, List.mem_cons, List.not_mem_nil, or_false, mtab_eq, Nat.reduceEqDiff, Nat.zero_add, hd1, mset2, b10, b00, not_true_eq_false, not_false_eq_true, true_implies, false_implies, implies_true, and_true, true_and, Nat.le_refl, true_or, or_true, eq_self, List.length_cons, List.length_nil, Nat.reduceAdd, Nat.reduceLT, Nat.reduceLeDiff]
  refine w_isPiece hW1 ?_
  by_cases c1 : 0 ≤ p ∧ p < nI (nP (S.1.getD q []))
  case neg =>
    rw [if_neg c1]
    rw [if_neg (fun z => c1 z.2.1)] at hp
    simp (disch := omega) only [↓EVi, ↓EVc, ↓ft_X6_link, ↓reduceIte, ↓EV_obs, ↓EV_obn, ↓EV_ais, ↓EV_ain, ↓EV_ob hX1.1, ↓EV_ob hB.1.1, mdF, mRun, List.mem_cons, List.not_mem_nil, or_false, mtab_eq, Nat.reduceEqDiff, Nat.zero_add, xO, hd1, mset2, b10, b00, not_true_eq_false, not_false_eq_true, true_implies, false_implies, implies_true, and_true, true_and, Nat.le_refl, true_or, or_true, eq_self, List.length_cons, List.length_nil, Nat.reduceAdd, Nat.reduceLT, Nat.reduceLeDiff]
    exact hp
  rw [if_pos c1]
  simp (disch := omega) only [↓EVi, ↓EVc, ↓ft_X6_link, ↓reduceIte, ↓EV_obs, ↓EV_obn, ↓EV_ais, ↓EV_ain, ↓EV_ob hX1.1, ↓EV_ob hB.1.1, mdF, mRun, List.mem_cons, List.not_mem_nil, or_false, mtab_eq, Nat.reduceEqDiff, Nat.zero_add, xO, hd1, mset2, b10, b00, not_true_eq_false, not_false_eq_true, true_implies, false_implies, implies_true, and_true, true_and, Nat.le_refl, true_or, or_true, eq_self, List.length_cons, List.length_nil, Nat.reduceAdd, Nat.reduceLT, Nat.reduceLeDiff]
  refine w_isPiece hW1 ?_
  by_cases c2 : 0 ≤ r ∧ r < nI (nP (S.1.getD q []))
  case neg =>
    rw [if_neg c2]
    rw [if_neg (fun z => c2 z.2.2.1)] at hp
    simp (disch := omega) only [↓EVi, ↓EVc, ↓ft_X6_link, ↓reduceIte, ↓EV_obs, ↓EV_obn, ↓EV_ais, ↓EV_ain, ↓EV_ob hX1.1, ↓EV_ob hB.1.1, mdF, mRun, List.mem_cons, List.not_mem_nil, or_false, mtab_eq, Nat.reduceEqDiff, Nat.zero_add, xO, hd1, mset2, b10, b00, not_true_eq_false, not_false_eq_true, true_implies, false_implies, implies_true, and_true, true_and, Nat.le_refl, true_or, or_true, eq_self, List.length_cons, List.length_nil, Nat.reduceAdd, Nat.reduceLT, Nat.reduceLeDiff]
    exact hp
  rw [if_pos c2]
  by_cases c3 : p = r
  · rw [if_neg (fun z => z.2.2.2 c3)] at hp
    have f3 : (p = r) = True := eq_true c3
    simp (disch := omega) only [↓EVk, ↓w_if_eq, ↓w_an_ite, ↓mEndK, ↓w_retK0, ↓w_fitK, ↓w_dupK, ↓w_dup2K, w_an_back, ↓EVd, ↓ft_X6_link, ↓reduceIte, ↓EV_obs, ↓EV_obn, ↓EV_ais, ↓EV_ain, ↓EV_ob hX1.1, ↓EV_ob hB.1.1, mdF, mRun, List.mem_cons, List.not_mem_nil, or_false, mtab_eq, Nat.reduceEqDiff, Nat.zero_add, xO, hd1, f3, mset2, b10, b00, not_true_eq_false, not_false_eq_true, true_implies, false_implies, implies_true, and_true, true_and, Nat.le_refl, true_or, or_true, eq_self, List.length_cons, List.length_nil, Nat.reduceAdd, Nat.reduceLT, Nat.reduceLeDiff]
    exact hp
  rw [if_pos ⟨c, c1, c2, c3⟩] at hp
  have f3 : (p = r) = False := eq_false c3
  simp (disch := omega) only [↓EVk, ↓w_if_eq, ↓w_an_ite, ↓mEndK, ↓w_retK0, ↓w_fitK, ↓w_dupK, ↓w_dup2K, w_an_back, ↓EVd, ↓ft_X6_link, ↓reduceIte, ↓EV_obs, ↓EV_obn, ↓EV_ais, ↓EV_ain, ↓EV_ob hX1.1, ↓EV_ob hB.1.1, mdF, mRun, List.mem_cons, List.not_mem_nil, or_false, mtab_eq, Nat.reduceEqDiff, Nat.zero_add, xO, hd1, f3, mset2, b10, b00, not_true_eq_false, not_false_eq_true, true_implies, false_implies, implies_true, and_true, true_and, Nat.le_refl, true_or, or_true, eq_self, List.length_cons, List.length_nil, Nat.reduceAdd, Nat.reduceLT, Nat.reduceLeDiff]
  rcases arg_ix p (n := nP (S.1.getD q [])) (by omega) with z | ⟨s, hs, rfl⟩
  · exact absurd c1 z
  rcases arg_ix r (n := nP (S.1.getD q [])) (by omega) with z | ⟨t, ht, rfl⟩
  · exact absurd c2 z
  rw [nI_clamp (n := s) (by omega), nI_clamp (n := t) (by omega)] at hp
  refine w_linking (by omega) hw (XR_F hX1 hq) hW1 (by omega) (by omega) (fun z => c3 (by rw [z])) ?_
  simp (disch := omega) only [↓EVk, ↓w_if_eq, ↓w_an_ite, ↓mEndK, ↓w_retK0, ↓w_fitK, ↓w_dupK, ↓w_dup2K, w_an_back, ↓EVd, ↓ft_X6_link, ↓reduceIte, ↓EV_obs, ↓EV_obn, ↓EV_ais, ↓EV_ain, mdF, mRun, List.mem_cons, List.not_mem_nil, or_false, mtab_eq, Nat.reduceEqDiff, Nat.zero_add, mset2, b10, b00, not_true_eq_false, not_false_eq_true, true_implies, false_implies, implies_true, and_true, true_and, Nat.le_refl, true_or, or_true, eq_self, List.length_cons, List.length_nil, Nat.reduceAdd, Nat.reduceLT, Nat.reduceLeDiff]
  exact hp
set_option maxRecDepth 10000 in
theorem X_about {f w : Int32} (hd : 5 ≤ d) (hI : SInv S) (hX : XR h G B S) (hp : ∀ h', XR h' G B (aAbout f w S).2 → mKeep h h' B (B + 136) → post (some (.int (aAbout f w S).1)) h') : MC G MX6_about d 0 0 [.ref B, .int f, .int w] h N post := by
  have h0 := hX.1
  have h8 := hI.1
  have hd1 : 1 ≤ d := by omega
  have hfa := hX.2.2.2.1
  unfold aAbout at hp
  refine MC.of (L0 := [some (.ref B), some (.int f), some (.int w), none]) gd_X6_about (Nat.le_of_ble_eq_true rfl) rfl (MW.run gd_X6_about [18] 30 ?_)
  simp (disch := omega) only [↓EVi, ↓EVc, ↓ft_X6_about, ↓reduceIte, ↓EV_obs, ↓EV_obn, ↓EV_ais, ↓EV_ain, ↓EV_ob h0, mdF, mRun, List.mem_cons, List.not_mem_nil, or_false, mtab_eq, Nat.reduceEqDiff, Nat.zero_add, xO, hd1, mset2, b10, b00, not_true_eq_false, not_false_eq_true, true_implies, false_implies, implies_true, and_true, true_and, Nat.le_refl, true_or, or_true, eq_self, List.length_cons, List.length_nil, Nat.reduceAdd, Nat.reduceLT, Nat.reduceLeDiff]
  refine x_isFront hX ?_
  rcases isF_c S f hI with c | ⟨q, hq, rfl, c, hfr⟩
  · rw [if_neg c]
    rw [if_neg (fun z => c z.1)] at hp
    simp (disch := omega) only [↓EVi, ↓EVc, ↓ft_X6_about, ↓reduceIte, ↓EV_obs, ↓EV_obn, ↓EV_ais, ↓EV_ain, ↓EV_ob h0, mdF, mRun, List.mem_cons, List.not_mem_nil, or_false, mtab_eq, Nat.reduceEqDiff, Nat.zero_add, xO, hd1, mset2, b10, b00, not_true_eq_false, not_false_eq_true, true_implies, false_implies, implies_true, and_true, true_and, Nat.le_refl, true_or, or_true, eq_self, List.length_cons, List.length_nil, Nat.reduceAdd, Nat.reduceLT, Nat.reduceLeDiff]
    exact hp h hX mKeep_rfl
  rw [if_pos c]
  rw [hfr] at hp
  have hw := hI.2.1 q hq
  have b := vld_bd hw.1
  have hnP := nP_le hw
  have hcq : (nI q).toNatClampNeg = q := nI_clamp (by omega)
  have vq : vp_in (nI q) 8 := vp_in_nI (by omega) (by decide)
  have hF := XR_F hX hq
  obtain ⟨hv, K, P, A, ⟨g0, g1, g2, g3⟩, hKP, hA⟩ := id hF
  have n2 : ¬ (2 : Int32) = 0 := by decide
  simp (disch := omega) only [↓EVi, ↓EVc, ↓ft_X6_about, ↓reduceIte, ↓EV_obs, ↓EV_obn, ↓EV_ais, ↓EV_ain, ↓EV_ob h0, ↓EV_ar hfa, ↓EV_arn, mdF, mRun, List.mem_cons, List.not_mem_nil, or_false, mtab_eq, Nat.reduceEqDiff, Nat.zero_add, xO, hd1, vq, hcq, mset2, b10, b00, not_true_eq_false, not_false_eq_true, true_implies, false_implies, implies_true, and_true, true_and, Nat.le_refl, true_or, or_true, eq_self, List.length_cons, List.length_nil, Nat.reduceAdd, Nat.reduceLT, Nat.reduceLeDiff]
  have D := MW.dec (e := (.tableswitch 83 0 5 #[38, 43, 48, 60, 69, 74], 56, 0, 0, 0, 0, 0)) (pc := 18) gd_X6_about rfl
  by_cases k : 0 ≤ w ∧ w ≤ 5
  · rw [if_pos ⟨c, k⟩] at hp
    obtain ⟨t, ht, rfl⟩ := arg_le w 5 (by decide) k
    rcases (by omega : t = 0 ∨ t = 1 ∨ t = 2 ∨ t = 3 ∨ t = 4 ∨ t = 5) with rfl | rfl | rfl | rfl | rfl | rfl
    · rw [if_pos (show nI 0 = (0 : Int32) from rfl)] at hp
      refine MW.tsw0 (tgt := 56) (off := 38) D (by decide) (by decide) rfl (by decide) (MW.run gd_X6_about [] 12 ?_)
      simp (disch := omega) only [↓EVi, ↓EVc, ↓ft_X6_about, ↓reduceIte, ↓EV_obs, ↓EV_obn, ↓EV_ais, ↓EV_ain, ↓EV_ob g0, mdF, mRun, List.mem_cons, List.not_mem_nil, or_false, mtab_eq, Nat.reduceEqDiff, Nat.zero_add, mset2, b10, b00, not_true_eq_false, not_false_eq_true, true_implies, false_implies, implies_true, and_true, true_and, Nat.le_refl, true_or, or_true, eq_self, List.length_cons, List.length_nil, Nat.reduceAdd, Nat.reduceLT, Nat.reduceLeDiff]
      exact hp h hX mKeep_rfl
    · rw [if_neg (by decide), if_pos (show nI 1 = (1 : Int32) from rfl)] at hp
      refine MW.tsw0 (tgt := 61) (off := 43) D (by decide) (by decide) rfl (by decide) (MW.run gd_X6_about [] 12 ?_)
      simp (disch := omega) only [↓EVi, ↓EVc, ↓ft_X6_about, ↓reduceIte, ↓EV_obs, ↓EV_obn, ↓EV_ais, ↓EV_ain, ↓EV_ob g0, mdF, mRun, List.mem_cons, List.not_mem_nil, or_false, mtab_eq, Nat.reduceEqDiff, Nat.zero_add, mset2, b10, b00, not_true_eq_false, not_false_eq_true, true_implies, false_implies, implies_true, and_true, true_and, Nat.le_refl, true_or, or_true, eq_self, List.length_cons, List.length_nil, Nat.reduceAdd, Nat.reduceLT, Nat.reduceLeDiff]
      exact hp h hX mKeep_rfl
    · rw [if_neg (by decide), if_neg (by decide), if_pos (show nI 2 = (2 : Int32) from rfl)] at hp
      have e := dthC_eq hw
      have eq : (nI (S.1.getD q []).length - nI (crs (S.1.getD q []))) / 2 = nI (dthC (S.1.getD q []) (S.1.getD q []).length) := by
        rw [show nI (S.1.getD q []).length - nI (crs (S.1.getD q [])) = nI (2 * dthC (S.1.getD q []) (S.1.getD q []).length) by simp (disch := omega) only [z_nI, z_lit, z_neg, z_add, z_sub, z_mul, z_lt, z_le, z_eq, z_in, z_cl]; omega, nI_half (by omega)]
      refine MW.tsw0 (tgt := 66) (off := 48) D (by decide) (by decide) rfl (by decide) (MW.run gd_X6_about [] 12 ?_)
      simp (disch := omega) only [↓EVi, ↓EVc, ↓ft_X6_about, ↓reduceIte, ↓EV_obs, ↓EV_obn, ↓EV_ais, ↓EV_ain, ↓EV_ob g0, mdF, mRun, List.mem_cons, List.not_mem_nil, or_false, mtab_eq, Nat.reduceEqDiff, Nat.zero_add, n2, eq, mset2, b10, b00, not_true_eq_false, not_false_eq_true, true_implies, false_implies, implies_true, and_true, true_and, Nat.le_refl, true_or, or_true, eq_self, List.length_cons, List.length_nil, Nat.reduceAdd, Nat.reduceLT, Nat.reduceLeDiff]
      exact hp h hX mKeep_rfl
    · rw [if_neg (by decide), if_neg (by decide), if_neg (by decide), if_pos (show nI 3 = (3 : Int32) from rfl)] at hp
      refine MW.tsw0 (tgt := 78) (off := 60) D (by decide) (by decide) rfl (by decide) (MW.run gd_X6_about [] 12 ?_)
      simp (disch := omega) only [↓EVi, ↓EVc, ↓ft_X6_about, ↓reduceIte, ↓EV_obs, ↓EV_obn, ↓EV_ais, ↓EV_ain, ↓EV_ob h0, mdF, mRun, List.mem_cons, List.not_mem_nil, or_false, mtab_eq, Nat.reduceEqDiff, Nat.zero_add, xO, hd1, mset2, b10, b00, not_true_eq_false, not_false_eq_true, true_implies, false_implies, implies_true, and_true, true_and, Nat.le_refl, true_or, or_true, eq_self, List.length_cons, List.length_nil, Nat.reduceAdd, Nat.reduceLT, Nat.reduceLeDiff]
      refine x_traced (by omega) hI hX hq (fun h1 hX1 hW1 hk1 => ?_)
      obtain ⟨R, a, hB⟩ := WyR_B hW1
      simp (disch := omega) only [↓EVi, ↓EVc, ↓ft_X6_about, ↓reduceIte, ↓EV_obs, ↓EV_obn, ↓EV_ais, ↓EV_ain, ↓EV_ob hB.1.1, mdF, mRun, List.mem_cons, List.not_mem_nil, or_false, mtab_eq, Nat.reduceEqDiff, Nat.zero_add, mset2, b10, b00, not_true_eq_false, not_false_eq_true, true_implies, false_implies, implies_true, and_true, true_and, Nat.le_refl, true_or, or_true, eq_self, List.length_cons, List.length_nil, Nat.reduceAdd, Nat.reduceLT, Nat.reduceLeDiff]
      exact hp h1 hX1 (mKeep_in hk1 (by omega) (by omega))
    · rw [if_neg (by decide), if_neg (by decide), if_neg (by decide), if_neg (by decide), if_pos (show nI 4 = (4 : Int32) from rfl)] at hp
      refine MW.tsw0 (tgt := 87) (off := 69) D (by decide) (by decide) rfl (by decide) (MW.run gd_X6_about [] 12 ?_)
      simp (disch := omega) only [↓EVi, ↓EVc, ↓ft_X6_about, ↓reduceIte, ↓EV_obs, ↓EV_obn, ↓EV_ais, ↓EV_ain, ↓EV_ob g0, mdF, mRun, List.mem_cons, List.not_mem_nil, or_false, mtab_eq, Nat.reduceEqDiff, Nat.zero_add, hd1, mset2, b10, b00, not_true_eq_false, not_false_eq_true, true_implies, false_implies, implies_true, and_true, true_and, Nat.le_refl, true_or, or_true, eq_self, List.length_cons, List.length_nil, Nat.reduceAdd, Nat.reduceLT, Nat.reduceLeDiff]
      refine c_mostStrands (by omega) hF ?_
      simp (disch := omega) only [↓EVi, ↓EVc, ↓ft_X6_about, ↓reduceIte, ↓EV_obs, ↓EV_obn, ↓EV_ais, ↓EV_ain, mdF, mRun, List.mem_cons, List.not_mem_nil, or_false, mtab_eq, Nat.reduceEqDiff, Nat.zero_add, mset2, b10, b00, not_true_eq_false, not_false_eq_true, true_implies, false_implies, implies_true, and_true, true_and, Nat.le_refl, true_or, or_true, eq_self, List.length_cons, List.length_nil, Nat.reduceAdd, Nat.reduceLT, Nat.reduceLeDiff]
      exact hp h hX mKeep_rfl
    · rw [if_neg (by decide), if_neg (by decide), if_neg (by decide), if_neg (by decide), if_neg (by decide)] at hp
      refine MW.tsw0 (tgt := 92) (off := 74) D (by decide) (by decide) rfl (by decide) (MW.run gd_X6_about [] 12 ?_)
      simp (disch := omega) only [↓EVi, ↓EVc, ↓ft_X6_about, ↓reduceIte, ↓EV_obs, ↓EV_obn, ↓EV_ais, ↓EV_ain, ↓EV_ob h0, mdF, mRun, List.mem_cons, List.not_mem_nil, or_false, mtab_eq, Nat.reduceEqDiff, Nat.zero_add, xO, hd1, mset2, b10, b00, not_true_eq_false, not_false_eq_true, true_implies, false_implies, implies_true, and_true, true_and, Nat.le_refl, true_or, or_true, eq_self, List.length_cons, List.length_nil, Nat.reduceAdd, Nat.reduceLT, Nat.reduceLeDiff]
      refine x_traced (by omega) hI hX hq (fun h1 hX1 hW1 hk1 => ?_)
      obtain ⟨R, a, hB⟩ := WyR_B hW1
      simp (disch := omega) only [↓EVi, ↓EVc, ↓ft_X6_about, ↓reduceIte, ↓EV_obs, ↓EV_obn, ↓EV_ais, ↓EV_ain, ↓EV_ob hB.1.1, mdF, mRun, List.mem_cons, List.not_mem_nil, or_false, mtab_eq, Nat.reduceEqDiff, Nat.zero_add, hd1, mset2, b10, b00, not_true_eq_false, not_false_eq_true, true_implies, false_implies, implies_true, and_true, true_and, Nat.le_refl, true_or, or_true, eq_self, List.length_cons, List.length_nil, Nat.reduceAdd, Nat.reduceLT, Nat.reduceLeDiff]
      refine w_plusCrosses (by omega) hw (XR_F hX1 hq) hW1 ?_
      simp (disch := omega) only [↓EVi, ↓EVc, ↓ft_X6_about, ↓reduceIte, ↓EV_obs, ↓EV_obn, ↓EV_ais, ↓EV_ain, mdF, mRun, List.mem_cons, List.not_mem_nil, or_false, mtab_eq, Nat.reduceEqDiff, Nat.zero_add, mset2, b10, b00, not_true_eq_false, not_false_eq_true, true_implies, false_implies, implies_true, and_true, true_and, Nat.le_refl, true_or, or_true, eq_self, List.length_cons, List.length_nil, Nat.reduceAdd, Nat.reduceLT, Nat.reduceLeDiff]
      exact hp h1 hX1 (mKeep_in hk1 (by omega) (by omega))
  · rw [if_neg (fun z => k z.2)] at hp
    refine MW.tswOut (tgt := 101) D ?_ (by decide) (MW.run gd_X6_about [] 10 ?_)
    · obtain ⟨z, z1, z2, rfl⟩ := z_of w
      rw [z_toInt ⟨z1, z2⟩]
      simp (disch := omega) only [z_nI, z_lit, z_neg, z_add, z_sub, z_mul, z_lt, z_le, z_eq, z_in, z_cl] at k
      omega
    · simp (disch := omega) only [↓EVi, ↓EVc, ↓ft_X6_about, ↓reduceIte, ↓EV_obs, ↓EV_obn, ↓EV_ais, ↓EV_ain, mdF, mRun, List.mem_cons, List.not_mem_nil, or_false, mtab_eq, Nat.reduceEqDiff, Nat.zero_add, mset2, b10, b00, not_true_eq_false, not_false_eq_true, true_implies, false_implies, implies_true, and_true, true_and, Nat.le_refl, true_or, or_true, eq_self, List.length_cons, List.length_nil, Nat.reduceAdd, Nat.reduceLT, Nat.reduceLeDiff]
      exact hp h hX mKeep_rfl
set_option maxRecDepth 10000 in
theorem X_number {f p w : Int32} (hd : 5 ≤ d) (hI : SInv S) (hX : XR h G B S) (hp : ∀ h', XR h' G B (aNumber f p w S).2 → mKeep h h' B (B + 136) → post (some (.int (aNumber f p w S).1)) h') : MC G MX6_number d 0 0 [.ref B, .int f, .int p, .int w] h N post := by
  have h0 := hX.1
  have h8 := hI.1
  have hd1 : 1 ≤ d := by omega
  unfold aNumber at hp
  refine MC.of (L0 := [some (.ref B), some (.int f), some (.int p), some (.int w)]) gd_X6_number (Nat.le_of_ble_eq_true rfl) rfl (MW.run gd_X6_number [25] 30 ?_)
  simp (disch := omega) only [↓EVi, ↓EVc, ↓ft_X6_number, ↓reduceIte, ↓EV_obs, ↓EV_obn, ↓EV_ais, ↓EV_ain, ↓EV_ob h0, mdF, mRun, List.mem_cons, List.not_mem_nil, or_false, mtab_eq, Nat.reduceEqDiff, Nat.zero_add, xO, hd1, mset2, b10, b00, not_true_eq_false, not_false_eq_true, true_implies, false_implies, implies_true, and_true, true_and, Nat.le_refl, true_or, or_true, eq_self, List.length_cons, List.length_nil, Nat.reduceAdd, Nat.reduceLT, Nat.reduceLeDiff]
  refine x_isFront hX ?_
  rcases isF_c S f hI with c | ⟨q, hq, rfl, c, hfr⟩
  · rw [if_neg c]
    rw [if_neg (fun z => c z.1)] at hp
    simp (disch := omega) only [↓EVi, ↓EVc, ↓ft_X6_number, ↓reduceIte, ↓EV_obs, ↓EV_obn, ↓EV_ais, ↓EV_ain, ↓EV_ob h0, mdF, mRun, List.mem_cons, List.not_mem_nil, or_false, mtab_eq, Nat.reduceEqDiff, Nat.zero_add, xO, hd1, mset2, b10, b00, not_true_eq_false, not_false_eq_true, true_implies, false_implies, implies_true, and_true, true_and, Nat.le_refl, true_or, or_true, eq_self, List.length_cons, List.length_nil, Nat.reduceAdd, Nat.reduceLT, Nat.reduceLeDiff]
    exact hp h hX mKeep_rfl
  rw [if_pos c]
  rw [hfr] at hp
  have hw := hI.2.1 q hq
  have hnP := nP_le hw
  simp (disch := omega) only [↓EVi, ↓EVc, ↓ft_X6_number, ↓reduceIte, ↓EV_obs, ↓EV_obn, ↓EV_ais, ↓EV_ain, ↓EV_ob h0, mdF, mRun, List.mem_cons, List.not_mem_nil, or_false, mtab_eq, Nat.reduceEqDiff, Nat.zero_add, xO, hd1, mset2, b10, b00, not_true_eq_false, not_false_eq_true, true_implies, false_implies, implies_true, and_true, true_and, Nat.le_refl, true_or, or_true, eq_self, List.length_cons, List.length_nil, Nat.reduceAdd, Nat.reduceLT, Nat.reduceLeDiff]
  refine x_traced (by omega) hI hX hq (fun h1 hX1 hW1 hk1 => ?_)
  obtain ⟨R, a, hB⟩ := WyR_B hW1
  replace hp := hp h1 hX1 (mKeep_in hk1 (by omega) (by omega))
  simp (disch := omega) only [↓EVi, ↓EVc, ↓ft_X6_number, ↓reduceIte, ↓EV_obs, ↓EV_obn, ↓EV_ais, ↓EV_ain, ↓EV_ob hB.1.1, mdF, mRun, List.mem_cons, List.not_mem_nil, or_false, mtab_eq, Nat.reduceEqDiff, Nat.zero_add, hd1, mset2, b10, b00, not_true_eq_false, not_false_eq_true, true_implies, false_implies, implies_true, and_true, true_and, Nat.le_refl, true_or, or_true, eq_self, List.length_cons, List.length_nil, Nat.reduceAdd, Nat.reduceLT, Nat.reduceLeDiff]
  refine w_isPiece hW1 ?_
  by_cases c1 : 0 ≤ p ∧ p < nI (nP (S.1.getD q []))
  case neg =>
    rw [if_neg c1]
    rw [if_neg (fun z => c1 z.2.2)] at hp
    simp (disch := omega) only [↓EVi, ↓EVc, ↓ft_X6_number, ↓reduceIte, ↓EV_obs, ↓EV_obn, ↓EV_ais, ↓EV_ain, ↓EV_ob hX1.1, ↓EV_ob hB.1.1, mdF, mRun, List.mem_cons, List.not_mem_nil, or_false, mtab_eq, Nat.reduceEqDiff, Nat.zero_add, xO, hd1, mset2, b10, b00, not_true_eq_false, not_false_eq_true, true_implies, false_implies, implies_true, and_true, true_and, Nat.le_refl, true_or, or_true, eq_self, List.length_cons, List.length_nil, Nat.reduceAdd, Nat.reduceLT, Nat.reduceLeDiff]
    exact hp
  rw [if_pos c1]
  simp (disch := omega) only [↓EVi, ↓EVc, ↓ft_X6_number, ↓reduceIte, ↓EV_obs, ↓EV_obn, ↓EV_ais, ↓EV_ain, ↓EV_ob hX1.1, ↓EV_ob hB.1.1, mdF, mRun, List.mem_cons, List.not_mem_nil, or_false, mtab_eq, Nat.reduceEqDiff, Nat.zero_add, xO, hd1, mset2, b10, b00, not_true_eq_false, not_false_eq_true, true_implies, false_implies, implies_true, and_true, true_and, Nat.le_refl, true_or, or_true, eq_self, List.length_cons, List.length_nil, Nat.reduceAdd, Nat.reduceLT, Nat.reduceLeDiff]
  have D := MW.dec (e := (.tableswitch 101 0 4 #[35, 44, 62, 71, 91], 60, 0, 0, 0, 0, 0)) (pc := 25) gd_X6_number rfl
  rcases arg_ix p (n := nP (S.1.getD q [])) (by omega) with z | ⟨s, hs, rfl⟩
  · exact absurd c1 z
  rw [nI_clamp (n := s) (by omega)] at hp
  have cs : (nI s).toNatClampNeg = s := nI_clamp (by omega)
  have vs : vp_in (nI s) 15 := vp_in_nI (by omega) (by decide)
  obtain ⟨u6, u8, u7⟩ := hB.2.2.2 s hs
  have a6 : h1 (B + 12 + 43) = some (.inl (gC G 0, 15, .inl (a 6))) := hB.1.2.2.2 6 (by decide)
  have a7 : h1 (B + 12 + 44) = some (.inl (gC G 0, 15, .inl (a 7))) := hB.1.2.2.2 7 (by decide)
  have a8 : h1 (B + 12 + 45) = some (.inl (gC G 0, 15, .inl (a 8))) := hB.1.2.2.2 8 (by decide)
  have x0 := hX1.1
  have w0 := hB.1.1
  by_cases k : 0 ≤ w ∧ w ≤ 4
  · rw [if_pos ⟨c, k, c1⟩] at hp
    obtain ⟨t, ht, rfl⟩ := arg_le w 4 (by decide) k
    rcases (by omega : t = 0 ∨ t = 1 ∨ t = 2 ∨ t = 3 ∨ t = 4) with rfl | rfl | rfl | rfl | rfl
    · rw [if_pos (show nI 0 = (0 : Int32) from rfl)] at hp
      refine MW.tsw0 (tgt := 60) (off := 35) D (by decide) (by decide) rfl (by decide) (MW.run gd_X6_number [] 20 ?_)
      simp (disch := omega) only [↓EVi, ↓EVc, ↓ft_X6_number, ↓reduceIte, ↓EV_obs, ↓EV_obn, ↓EV_ais, ↓EV_ain, ↓EV_ob x0, ↓EV_ob w0, mdF, mRun, List.mem_cons, List.not_mem_nil, or_false, mtab_eq, Nat.reduceEqDiff, Nat.zero_add, xO, hd1, mset2, b10, b00, not_true_eq_false, not_false_eq_true, true_implies, false_implies, implies_true, and_true, true_and, Nat.le_refl, true_or, or_true, eq_self, List.length_cons, List.length_nil, Nat.reduceAdd, Nat.reduceLT, Nat.reduceLeDiff]
      refine w_writhe (by omega) hw (XR_F hX1 hq) hW1 (by omega) ?_
      simp (disch := omega) only [↓EVi, ↓EVc, ↓ft_X6_number, ↓reduceIte, ↓EV_obs, ↓EV_obn, ↓EV_ais, ↓EV_ain, mdF, mRun, List.mem_cons, List.not_mem_nil, or_false, mtab_eq, Nat.reduceEqDiff, Nat.zero_add, mset2, b10, b00, not_true_eq_false, not_false_eq_true, true_implies, false_implies, implies_true, and_true, true_and, Nat.le_refl, true_or, or_true, eq_self, List.length_cons, List.length_nil, Nat.reduceAdd, Nat.reduceLT, Nat.reduceLeDiff]
      exact hp
    · rw [if_neg (by decide), if_pos (show nI 1 = (1 : Int32) from rfl)] at hp
      refine MW.tsw0 (tgt := 69) (off := 44) D (by decide) (by decide) rfl (by decide) (MW.run gd_X6_number [] 20 ?_)
      simp (disch := omega) only [↓EVi, ↓EVc, ↓ft_X6_number, ↓reduceIte, ↓EV_obs, ↓EV_obn, ↓EV_ais, ↓EV_ain, ↓EV_ob x0, ↓EV_ob w0, mdF, mRun, List.mem_cons, List.not_mem_nil, or_false, mtab_eq, Nat.reduceEqDiff, Nat.zero_add, xO, hd1, mset2, b10, b00, not_true_eq_false, not_false_eq_true, true_implies, false_implies, implies_true, and_true, true_and, Nat.le_refl, true_or, or_true, eq_self, List.length_cons, List.length_nil, Nat.reduceAdd, Nat.reduceLT, Nat.reduceLeDiff]
      refine w_writhe (by omega) hw (XR_F hX1 hq) hW1 (by omega) ?_
      simp (disch := omega) only [↓EVi, ↓EVc, ↓ft_X6_number, ↓reduceIte, ↓EV_obs, ↓EV_obn, ↓EV_ais, ↓EV_ain, ↓EV_ob x0, ↓EV_ob w0, mdF, mRun, List.mem_cons, List.not_mem_nil, or_false, mtab_eq, Nat.reduceEqDiff, Nat.zero_add, xO, hd1, mset2, b10, b00, not_true_eq_false, not_false_eq_true, true_implies, false_implies, implies_true, and_true, true_and, Nat.le_refl, true_or, or_true, eq_self, List.length_cons, List.length_nil, Nat.reduceAdd, Nat.reduceLT, Nat.reduceLeDiff]
      refine w_deaths hw hW1 hs ?_
      simp (disch := omega) only [↓EVi, ↓EVc, ↓ft_X6_number, ↓reduceIte, ↓EV_obs, ↓EV_obn, ↓EV_ais, ↓EV_ain, mdF, mRun, List.mem_cons, List.not_mem_nil, or_false, mtab_eq, Nat.reduceEqDiff, Nat.zero_add, mset2, b10, b00, not_true_eq_false, not_false_eq_true, true_implies, false_implies, implies_true, and_true, true_and, Nat.le_refl, true_or, or_true, eq_self, List.length_cons, List.length_nil, Nat.reduceAdd, Nat.reduceLT, Nat.reduceLeDiff]
      exact hp
    · rw [if_neg (by decide), if_neg (by decide), if_pos (show nI 2 = (2 : Int32) from rfl)] at hp
      refine MW.tsw0 (tgt := 87) (off := 62) D (by decide) (by decide) rfl (by decide) (MW.run gd_X6_number [] 20 ?_)
      simp (disch := omega) only [↓EVi, ↓EVc, ↓ft_X6_number, ↓reduceIte, ↓EV_obs, ↓EV_obn, ↓EV_ais, ↓EV_ain, ↓EV_ob x0, ↓EV_ob w0, mdF, mRun, List.mem_cons, List.not_mem_nil, or_false, mtab_eq, Nat.reduceEqDiff, Nat.zero_add, xO, hd1, mset2, b10, b00, not_true_eq_false, not_false_eq_true, true_implies, false_implies, implies_true, and_true, true_and, Nat.le_refl, true_or, or_true, eq_self, List.length_cons, List.length_nil, Nat.reduceAdd, Nat.reduceLT, Nat.reduceLeDiff]
      refine w_turn hw hW1 hs ?_
      simp (disch := omega) only [↓EVi, ↓EVc, ↓ft_X6_number, ↓reduceIte, ↓EV_obs, ↓EV_obn, ↓EV_ais, ↓EV_ain, mdF, mRun, List.mem_cons, List.not_mem_nil, or_false, mtab_eq, Nat.reduceEqDiff, Nat.zero_add, mset2, b10, b00, not_true_eq_false, not_false_eq_true, true_implies, false_implies, implies_true, and_true, true_and, Nat.le_refl, true_or, or_true, eq_self, List.length_cons, List.length_nil, Nat.reduceAdd, Nat.reduceLT, Nat.reduceLeDiff]
      exact hp
    · rw [if_neg (by decide), if_neg (by decide), if_neg (by decide), if_pos (show nI 3 = (3 : Int32) from rfl), Int32.add_comm] at hp
      refine MW.tsw0 (tgt := 96) (off := 71) D (by decide) (by decide) rfl (by decide) (MW.run gd_X6_number [] 20 ?_)
      simp (disch := omega) only [↓EVi, ↓EVc, ↓ft_X6_number, ↓reduceIte, ↓EV_obs, ↓EV_obn, ↓EV_ais, ↓EV_ain, ↓EV_ob x0, ↓EV_ob w0, ↓EV_ai a7, ↓EV_ai a8, mdF, mRun, List.mem_cons, List.not_mem_nil, or_false, mtab_eq, Nat.reduceEqDiff, Nat.zero_add, xO, cs, vs, u7, u8, mset2, b10, b00, not_true_eq_false, not_false_eq_true, true_implies, false_implies, implies_true, and_true, true_and, Nat.le_refl, true_or, or_true, eq_self, List.length_cons, List.length_nil, Nat.reduceAdd, Nat.reduceLT, Nat.reduceLeDiff]
      exact hp
    · rw [if_neg (by decide), if_neg (by decide), if_neg (by decide), if_neg (by decide)] at hp
      refine MW.tsw0 (tgt := 116) (off := 91) D (by decide) (by decide) rfl (by decide) (MW.run gd_X6_number [] 20 ?_)
      simp (disch := omega) only [↓EVi, ↓EVc, ↓ft_X6_number, ↓reduceIte, ↓EV_obs, ↓EV_obn, ↓EV_ais, ↓EV_ain, ↓EV_ob x0, ↓EV_ob w0, ↓EV_ai a6, mdF, mRun, List.mem_cons, List.not_mem_nil, or_false, mtab_eq, Nat.reduceEqDiff, Nat.zero_add, xO, cs, vs, u6, mset2, b10, b00, not_true_eq_false, not_false_eq_true, true_implies, false_implies, implies_true, and_true, true_and, Nat.le_refl, true_or, or_true, eq_self, List.length_cons, List.length_nil, Nat.reduceAdd, Nat.reduceLT, Nat.reduceLeDiff]
      exact hp
  · rw [if_neg (fun z => k z.2.1)] at hp
    refine MW.tswOut (tgt := 126) D ?_ (by decide) (MW.run gd_X6_number [] 10 ?_)
    · obtain ⟨z, z1, z2, rfl⟩ := z_of w
      rw [z_toInt ⟨z1, z2⟩]
      simp (disch := omega) only [z_nI, z_lit, z_neg, z_add, z_sub, z_mul, z_lt, z_le, z_eq, z_in, z_cl] at k
      omega
    · simp (disch := omega) only [↓EVi, ↓EVc, ↓ft_X6_number, ↓reduceIte, ↓EV_obs, ↓EV_obn, ↓EV_ais, ↓EV_ain, mdF, mRun, List.mem_cons, List.not_mem_nil, or_false, mtab_eq, Nat.reduceEqDiff, Nat.zero_add, mset2, b10, b00, not_true_eq_false, not_false_eq_true, true_implies, false_implies, implies_true, and_true, true_and, Nat.le_refl, true_or, or_true, eq_self, List.length_cons, List.length_nil, Nat.reduceAdd, Nat.reduceLT, Nat.reduceLeDiff]
      exact hp
end XW
