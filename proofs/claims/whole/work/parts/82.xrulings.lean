/-! the class: rulings, first -/
section XU
variable {G : mG} {d N B : Nat} {S : AS} {h : mH} {post : Option Value → mH → Prop}
set_option maxRecDepth 10000 in
theorem x_isSorz {k : Int32} (hp : post (some (.int (if 0 ≤ k ∧ k ≤ 2 then 1 else 0))) h) : MC G MX6_isSort d 0 0 [.int k] h N post := by
  refine MC.of (L0 := [some (.int k)]) gd_X6_isSort (Nat.le_of_ble_eq_true rfl) rfl (MW.run gd_X6_isSort [] 12 ?_)
  by_cases c1 : k < 0
  · rw [if_neg (fun z => absurd c1 (by rw [Int32.not_lt]; exact z.1))] at hp
    have f1 : (k < 0) = True := eq_true c1
    simp (disch := omega) only [↓EVk, ↓w_if_eq, ↓w_an_ite, ↓mEndK, ↓w_retK0, ↓w_fitK, ↓w_dupK, ↓w_dup2K, w_an_back, ↓EVd, ↓ft_X6_isSort, ↓reduceIte, ↓EV_obs, ↓EV_obn, ↓EV_ais, ↓EV_ain, mdF, mRun, List.mem_cons, List.not_mem_nil, or_false, mtab_eq, Nat.reduceEqDiff, Nat.zero_add, f1, mset2, b10, b00, not_true_eq_false, not_false_eq_true, true_implies, false_implies, implies_true, and_true, true_and, Nat.le_refl, true_or, or_true, eq_self, List.length_cons, List.length_nil, Nat.reduceAdd, Nat.reduceLT, Nat.reduceLeDiff]
    exact hp
  have f1 : (k < 0) = False := eq_false c1
  by_cases c2 : k ≤ 2
  · rw [if_pos ⟨by rw [← Int32.not_lt]; exact c1, c2⟩] at hp
    have f2 : ((2 : Int32) < k) = False := eq_false (by rw [Int32.not_lt]; exact c2)
    simp (disch := omega) only [↓EVk, ↓w_if_eq, ↓w_an_ite, ↓mEndK, ↓w_retK0, ↓w_fitK, ↓w_dupK, ↓w_dup2K, w_an_back, ↓EVd, ↓ft_X6_isSort, ↓reduceIte, ↓EV_obs, ↓EV_obn, ↓EV_ais, ↓EV_ain, mdF, mRun, List.mem_cons, List.not_mem_nil, or_false, mtab_eq, Nat.reduceEqDiff, Nat.zero_add, f1, f2, mset2, b10, b00, not_true_eq_false, not_false_eq_true, true_implies, false_implies, implies_true, and_true, true_and, Nat.le_refl, true_or, or_true, eq_self, List.length_cons, List.length_nil, Nat.reduceAdd, Nat.reduceLT, Nat.reduceLeDiff]
    exact hp
  · rw [if_neg (fun z => c2 z.2)] at hp
    have f2 : ((2 : Int32) < k) = True := eq_true (Int32.not_le.mp c2)
    simp (disch := omega) only [↓EVk, ↓w_if_eq, ↓w_an_ite, ↓mEndK, ↓w_retK0, ↓w_fitK, ↓w_dupK, ↓w_dup2K, w_an_back, ↓EVd, ↓ft_X6_isSort, ↓reduceIte, ↓EV_obs, ↓EV_obn, ↓EV_ais, ↓EV_ain, mdF, mRun, List.mem_cons, List.not_mem_nil, or_false, mtab_eq, Nat.reduceEqDiff, Nat.zero_add, f1, f2, mset2, b10, b00, not_true_eq_false, not_false_eq_true, true_implies, false_implies, implies_true, and_true, true_and, Nat.le_refl, true_or, or_true, eq_self, List.length_cons, List.length_nil, Nat.reduceAdd, Nat.reduceLT, Nat.reduceLeDiff]
    exact hp
set_option maxRecDepth 10000 in
theorem x_hasSort {q t : Nat} (hd : 5 ≤ d) (hI : SInv S) (hX : XR h G B S) (hq : q < S.1.length) (ht : t ≤ 2)
    (hp : ∀ h', XR h' G B S → WyR h' G (B + 12) (xF B q) (S.1.getD q []) → mKeep h h' (B + 12) (B + 57) → post (some (.int (if nI t = 2 ∧ 1 < nP (S.1.getD q []) then 0 else 1))) h') : MC G MX6_hasSort d 0 0 [.ref B, .int (nI q), .int (nI t)] h N post := by
  have h0 := hX.1
  have hd1 : 1 ≤ d := by omega
  have hw := hI.2.1 q hq
  have hnP := nP_le hw
  have hnp := nP_pos hw
  refine MC.of (L0 := [some (.ref B), some (.int (nI q)), some (.int (nI t))]) gd_X6_hasSort (Nat.le_of_ble_eq_true rfl) rfl (MW.run gd_X6_hasSort [] 18 ?_)
  simp (disch := omega) only [↓EVi, ↓EVc, ↓ft_X6_hasSort, ↓reduceIte, ↓EV_obs, ↓EV_obn, ↓EV_ais, ↓EV_ain, ↓EV_ob h0, mdF, mRun, List.mem_cons, List.not_mem_nil, or_false, mtab_eq, Nat.reduceEqDiff, Nat.zero_add, xO, hd1, mset2, b10, b00, not_true_eq_false, not_false_eq_true, true_implies, false_implies, implies_true, and_true, true_and, Nat.le_refl, true_or, or_true, eq_self, List.length_cons, List.length_nil, Nat.reduceAdd, Nat.reduceLT, Nat.reduceLeDiff]
  refine x_traced (by omega) hI hX hq (fun h1 hX1 hW1 hk1 => ?_)
  obtain ⟨R, a, hB⟩ := WyR_B hW1
  replace hp := hp h1 hX1 hW1 hk1
  by_cases c2 : nP (S.1.getD q []) = 1
  · have f1 : (nI (nP (S.1.getD q [])) = 1) = True := eq_true (by rw [c2]; rfl)
    rw [if_neg (fun z => by omega)] at hp
    simp (disch := omega) only [↓EVk, ↓w_if_eq, ↓w_an_ite, ↓mEndK, ↓w_retK0, ↓w_fitK, ↓w_dupK, ↓w_dup2K, w_an_back, ↓EVd, ↓ft_X6_hasSort, ↓reduceIte, ↓EV_obs, ↓EV_obn, ↓EV_ais, ↓EV_ain, ↓EV_ob hB.1.1, mdF, mRun, List.mem_cons, List.not_mem_nil, or_false, mtab_eq, Nat.reduceEqDiff, Nat.zero_add, f1, mset2, b10, b00, not_true_eq_false, not_false_eq_true, true_implies, false_implies, implies_true, and_true, true_and, Nat.le_refl, true_or, or_true, eq_self, List.length_cons, List.length_nil, Nat.reduceAdd, Nat.reduceLT, Nat.reduceLeDiff]
    exact hp
  have f1 : (nI (nP (S.1.getD q [])) = 1) = False := eq_false (fun z => c2 ((nI_eq (b := 1) (by omega) (by omega)).mp z))
  by_cases c3 : nI t = 2
  · rw [if_pos ⟨c3, by omega⟩] at hp
    have f2 : (nI t = 2) = True := eq_true c3
    simp (disch := omega) only [↓EVk, ↓w_if_eq, ↓w_an_ite, ↓mEndK, ↓w_retK0, ↓w_fitK, ↓w_dupK, ↓w_dup2K, w_an_back, ↓EVd, ↓ft_X6_hasSort, ↓reduceIte, ↓EV_obs, ↓EV_obn, ↓EV_ais, ↓EV_ain, ↓EV_ob hB.1.1, mdF, mRun, List.mem_cons, List.not_mem_nil, or_false, mtab_eq, Nat.reduceEqDiff, Nat.zero_add, f1, f2, mset2, b10, b00, not_true_eq_false, not_false_eq_true, true_implies, false_implies, implies_true, and_true, true_and, Nat.le_refl, true_or, or_true, eq_self, List.length_cons, List.length_nil, Nat.reduceAdd, Nat.reduceLT, Nat.reduceLeDiff]
    exact hp
  · rw [if_neg (fun z => c3 z.1)] at hp
    have f2 : (nI t = 2) = False := eq_false c3
    simp (disch := omega) only [↓EVk, ↓w_if_eq, ↓w_an_ite, ↓mEndK, ↓w_retK0, ↓w_fitK, ↓w_dupK, ↓w_dup2K, w_an_back, ↓EVd, ↓ft_X6_hasSort, ↓reduceIte, ↓EV_obs, ↓EV_obn, ↓EV_ais, ↓EV_ain, ↓EV_ob hB.1.1, mdF, mRun, List.mem_cons, List.not_mem_nil, or_false, mtab_eq, Nat.reduceEqDiff, Nat.zero_add, f1, f2, mset2, b10, b00, not_true_eq_false, not_false_eq_true, true_implies, false_implies, implies_true, and_true, true_and, Nat.le_refl, true_or, or_true, eq_self, List.length_cons, List.length_nil, Nat.reduceAdd, Nat.reduceLT, Nat.reduceLeDiff]
    exact hp
theorem SwS_A {Q qo : Nat} {o : Bool} {st : NS} {R : Nat → Nat → Int32} {my fb : Nat → Int32} (hS : SwS h G Q qo o st R my fb) : SA h G Q := ⟨_, _, _, _, R, my, fb, hS.1⟩
set_option maxRecDepth 10000 in
theorem X_rulings {f so n : Int32} (hd : 70 ≤ d) (hI : SInv S) (hX : XR h G B S) (hp : ∀ h', XR h' G B (aRulings f so n S).2 → mKeep h h' B (B + 136) → post (some (.int (aRulings f so n S).1)) h') : MC G MX6_rulings d 0 0 [.ref B, .int f, .int so, .int n] h N post := by
  have h0 := hX.1
  have h8 := hI.1
  have hd1 : 1 ≤ d := by omega
  unfold aRulings at hp
  refine MC.of (L0 := [some (.ref B), some (.int f), some (.int so), some (.int n)]) gd_X6_rulings (Nat.le_of_ble_eq_true rfl) rfl (MW.run gd_X6_rulings [] 36 ?_)
  simp (disch := omega) only [↓EVi, ↓EVc, ↓ft_X6_rulings, ↓reduceIte, ↓EV_obs, ↓EV_obn, ↓EV_ais, ↓EV_ain, ↓EV_ob h0, mdF, mRun, List.mem_cons, List.not_mem_nil, or_false, mtab_eq, Nat.reduceEqDiff, Nat.zero_add, xO, hd1, mset2, b10, b00, not_true_eq_false, not_false_eq_true, true_implies, false_implies, implies_true, and_true, true_and, Nat.le_refl, true_or, or_true, eq_self, List.length_cons, List.length_nil, Nat.reduceAdd, Nat.reduceLT, Nat.reduceLeDiff]
  refine x_isFront hX ?_
  rcases isF_c S f hI with c | ⟨q, hq, rfl, c, hfr⟩
  · rw [if_neg c]
    rw [if_neg (fun z => c z.1)] at hp
    simp (disch := omega) only [↓EVi, ↓EVc, ↓ft_X6_rulings, ↓reduceIte, ↓EV_obs, ↓EV_obn, ↓EV_ais, ↓EV_ain, ↓EV_ob h0, mdF, mRun, List.mem_cons, List.not_mem_nil, or_false, mtab_eq, Nat.reduceEqDiff, Nat.zero_add, xO, hd1, mset2, b10, b00, not_true_eq_false, not_false_eq_true, true_implies, false_implies, implies_true, and_true, true_and, Nat.le_refl, true_or, or_true, eq_self, List.length_cons, List.length_nil, Nat.reduceAdd, Nat.reduceLT, Nat.reduceLeDiff]
    exact hp h hX mKeep_rfl
  rw [if_pos c]
  rw [hfr] at hp
  simp (disch := omega) only [↓EVi, ↓EVc, ↓ft_X6_rulings, ↓reduceIte, ↓EV_obs, ↓EV_obn, ↓EV_ais, ↓EV_ain, ↓EV_ob h0, mdF, mRun, List.mem_cons, List.not_mem_nil, or_false, mtab_eq, Nat.reduceEqDiff, Nat.zero_add, xO, hd1, mset2, b10, b00, not_true_eq_false, not_false_eq_true, true_implies, false_implies, implies_true, and_true, true_and, Nat.le_refl, true_or, or_true, eq_self, List.length_cons, List.length_nil, Nat.reduceAdd, Nat.reduceLT, Nat.reduceLeDiff]
  refine x_isSorz ?_
  by_cases c1 : 0 ≤ so ∧ so ≤ 2
  case neg =>
    rw [if_neg c1]
    rw [if_neg (fun z => c1 z.2.1)] at hp
    simp (disch := omega) only [↓EVi, ↓EVc, ↓ft_X6_rulings, ↓reduceIte, ↓EV_obs, ↓EV_obn, ↓EV_ais, ↓EV_ain, ↓EV_ob h0, mdF, mRun, List.mem_cons, List.not_mem_nil, or_false, mtab_eq, Nat.reduceEqDiff, Nat.zero_add, xO, hd1, mset2, b10, b00, not_true_eq_false, not_false_eq_true, true_implies, false_implies, implies_true, and_true, true_and, Nat.le_refl, true_or, or_true, eq_self, List.length_cons, List.length_nil, Nat.reduceAdd, Nat.reduceLT, Nat.reduceLeDiff]
    exact hp h hX mKeep_rfl
  rw [if_pos c1]
  by_cases c2 : -1 ≤ n
  case neg =>
    rw [if_neg (fun z => c2 z.2.2)] at hp
    have f2 : ((-1 : Int32) ≤ n) = False := eq_false c2
    simp (disch := omega) only [↓EVk, ↓w_if_eq, ↓w_an_ite, ↓mEndK, ↓w_retK0, ↓w_fitK, ↓w_dupK, ↓w_dup2K, w_an_back, ↓EVd, ↓ft_X6_rulings, ↓reduceIte, ↓EV_obs, ↓EV_obn, ↓EV_ais, ↓EV_ain, ↓EV_ob h0, mdF, mRun, List.mem_cons, List.not_mem_nil, or_false, mtab_eq, Nat.reduceEqDiff, Nat.zero_add, xO, hd1, f2, mset2, b10, b00, not_true_eq_false, not_false_eq_true, true_implies, false_implies, implies_true, and_true, true_and, Nat.le_refl, true_or, or_true, eq_self, List.length_cons, List.length_nil, Nat.reduceAdd, Nat.reduceLT, Nat.reduceLeDiff]
    exact hp h hX mKeep_rfl
  have f2 : ((-1 : Int32) ≤ n) = True := eq_true c2
  rw [if_pos ⟨c, c1, c2⟩] at hp
  obtain ⟨t, ht, rfl⟩ := arg_le so 2 (by decide) c1
  rw [nI_clamp (n := t) (by omega)] at hp
  have hw := hI.2.1 q hq
  have b12 := (vld_bd hw.1).2.2
  simp (disch := omega) only [↓EVk, ↓w_if_eq, ↓w_an_ite, ↓mEndK, ↓w_retK0, ↓w_fitK, ↓w_dupK, ↓w_dup2K, w_an_back, ↓EVd, ↓ft_X6_rulings, ↓reduceIte, ↓EV_obs, ↓EV_obn, ↓EV_ais, ↓EV_ain, ↓EV_ob h0, mdF, mRun, List.mem_cons, List.not_mem_nil, or_false, mtab_eq, Nat.reduceEqDiff, Nat.zero_add, xO, hd1, f2, mset2, b10, b00, not_true_eq_false, not_false_eq_true, true_implies, false_implies, implies_true, and_true, true_and, Nat.le_refl, true_or, or_true, eq_self, List.length_cons, List.length_nil, Nat.reduceAdd, Nat.reduceLT, Nat.reduceLeDiff]
  refine x_hasSort (by omega) hI hX hq ht (fun h1 hX1 hW1 hk1 => ?_)
  have hk1' : mKeep h h1 B (B + 136) := mKeep_in hk1 (by omega) (by omega)
  by_cases c3 : nI t = 2 ∧ 1 < nP (S.1.getD q [])
  · rw [if_pos c3]
    rw [if_pos c3] at hp
    simp (disch := omega) only [↓EVk, ↓w_if_eq, ↓w_an_ite, ↓mEndK, ↓w_retK0, ↓w_fitK, ↓w_dupK, ↓w_dup2K, w_an_back, ↓EVd, ↓ft_X6_rulings, ↓reduceIte, ↓EV_obs, ↓EV_obn, ↓EV_ais, ↓EV_ain, mdF, mRun, List.mem_cons, List.not_mem_nil, or_false, mtab_eq, Nat.reduceEqDiff, Nat.zero_add, mset2, b10, b00, not_true_eq_false, not_false_eq_true, true_implies, false_implies, implies_true, and_true, true_and, Nat.le_refl, true_or, or_true, eq_self, List.length_cons, List.length_nil, Nat.reduceAdd, Nat.reduceLT, Nat.reduceLeDiff]
    exact hp h1 hX1 hk1'
  rw [if_neg c3]
  rw [if_neg c3] at hp
  obtain ⟨qo, one, fnd, fst, R0, my0, fb0, hC⟩ := id hX1.2.2.2.2.2.2.2.1
  simp (disch := omega) only [↓EVk, ↓w_if_eq, ↓w_an_ite, ↓mEndK, ↓w_retK0, ↓w_fitK, ↓w_dupK, ↓w_dup2K, w_an_back, ↓EVd, ↓ft_X6_rulings, ↓reduceIte, ↓EV_obs, ↓EV_obn, ↓EV_ais, ↓EV_ain, ↓EV_ob hX1.1, ↓EV_ob hC.1, mdF, mRun, List.mem_cons, List.not_mem_nil, or_false, mtab_eq, Nat.reduceEqDiff, Nat.zero_add, xO, hd1, mset2, b10, b00, not_true_eq_false, not_false_eq_true, true_implies, false_implies, implies_true, and_true, true_and, Nat.le_refl, true_or, or_true, eq_self, List.length_cons, List.length_nil, Nat.reduceAdd, Nat.reduceLT, Nat.reduceLeDiff]
  refine s_all (o := false) (y := 0) MX3_countAll (Or.inl ⟨rfl, rfl⟩) (by omega) hw (XR_F hX1 hq) hW1 hX1.2.2.2.2.2.2.2.1 (by unfold xF; omega) (by omega) ht (fun h2 R my fb hS2 hk2 => ?_)
  have hX2 := XR_sw hX1 hk2 (SwS_A hS2)
  have hk2' : mKeep h h2 B (B + 136) := mKeep_trans hk1' (mKeep_in hk2 (by omega) (by omega))
  replace hp := hp h2 hX2 hk2'
  have e1 : ((tkO false (mks (S.1.getD q []) (mayF (S.1.getD q []) t) (S.1.getD q []).length 0 (fun _ => 0) 0 0)).foldl ntS ns0).1 = rcM (S.1.getD q []) t (-1) (2 ^ crs (S.1.getD q [])) := by
    rw [nt_1, ← fnd_all hw]
    exact Nat.zero_add _
  have e2 : ∀ k, k < 2 ^ 31 → ((tkO false (mks (S.1.getD q []) (mayF (S.1.getD q []) t) (S.1.getD q []).length 0 (fun _ => 0) 0 0)).foldl ntS ns0).2.2 k = rcM (S.1.getD q []) t (nI k) (2 ^ crs (S.1.getD q [])) := by
    intro k hk
    rw [nt_3, ← fnd_by hw hk]
    exact Nat.zero_add _
  generalize (tkO false (mks (S.1.getD q []) (mayF (S.1.getD q []) t) (S.1.getD q []).length 0 (fun _ => 0) 0 0)).foldl ntS ns0 = st at *
  have s0 := hS2.1.1
  by_cases c4 : n = -1
  · have f4 : (n = -1) = True := eq_true c4
    rw [c4, ← e1] at hp
    simp (disch := omega) only [↓EVk, ↓w_if_eq, ↓w_an_ite, ↓mEndK, ↓w_retK0, ↓w_fitK, ↓w_dupK, ↓w_dup2K, w_an_back, ↓EVd, ↓ft_X6_rulings, ↓reduceIte, ↓EV_obs, ↓EV_obn, ↓EV_ais, ↓EV_ain, ↓EV_ob hX2.1, ↓EV_ob s0, mdF, mRun, List.mem_cons, List.not_mem_nil, or_false, mtab_eq, Nat.reduceEqDiff, Nat.zero_add, xO, hd1, f4, mset2, b10, b00, not_true_eq_false, not_false_eq_true, true_implies, false_implies, implies_true, and_true, true_and, Nat.le_refl, true_or, or_true, eq_self, List.length_cons, List.length_nil, Nat.reduceAdd, Nat.reduceLT, Nat.reduceLeDiff]
    exact hp
  · have f4 : (n = -1) = False := eq_false c4
    simp (disch := omega) only [↓EVk, ↓w_if_eq, ↓w_an_ite, ↓mEndK, ↓w_retK0, ↓w_fitK, ↓w_dupK, ↓w_dup2K, w_an_back, ↓EVd, ↓ft_X6_rulings, ↓reduceIte, ↓EV_obs, ↓EV_obn, ↓EV_ais, ↓EV_ain, ↓EV_ob hX2.1, ↓EV_ob s0, mdF, mRun, List.mem_cons, List.not_mem_nil, or_false, mtab_eq, Nat.reduceEqDiff, Nat.zero_add, xO, hd1, f4, mset2, b10, b00, not_true_eq_false, not_false_eq_true, true_implies, false_implies, implies_true, and_true, true_and, Nat.le_refl, true_or, or_true, eq_self, List.length_cons, List.length_nil, Nat.reduceAdd, Nat.reduceLT, Nat.reduceLeDiff]
    refine s_foundWith hS2 ?_
    simp (disch := omega) only [↓EVk, ↓w_if_eq, ↓w_an_ite, ↓mEndK, ↓w_retK0, ↓w_fitK, ↓w_dupK, ↓w_dup2K, w_an_back, ↓EVd, ↓ft_X6_rulings, ↓reduceIte, ↓EV_obs, ↓EV_obn, ↓EV_ais, ↓EV_ain, mdF, mRun, List.mem_cons, List.not_mem_nil, or_false, mtab_eq, Nat.reduceEqDiff, Nat.zero_add, mset2, b10, b00, not_true_eq_false, not_false_eq_true, true_implies, false_implies, implies_true, and_true, true_and, Nat.le_refl, true_or, or_true, eq_self, List.length_cons, List.length_nil, Nat.reduceAdd, Nat.reduceLT, Nat.reduceLeDiff]
    have n0 : 0 ≤ n := by
      obtain ⟨z, z1, z2, rfl⟩ := z_of n
      simp (disch := omega) only [z_nI, z_lit, z_neg, z_add, z_sub, z_mul, z_lt, z_le, z_eq, z_in, z_cl] at c2 c4
      simp (disch := omega) only [z_nI, z_lit, z_neg, z_add, z_sub, z_mul, z_lt, z_le, z_eq, z_in, z_cl]
      omega
    obtain ⟨k, hk, rfl⟩ := nI_of (x := n) (by rw [Int32.not_lt]; exact n0)
    by_cases c5 : nI k ≤ 12
    · rw [if_pos ⟨n0, c5⟩, nI_clamp hk, e2 k hk]
      exact hp
    · rw [if_neg (fun z => c5 z.2)]
      have k12 : 12 < k := by
        apply Classical.byContradiction
        intro z
        exact c5 (by simp (disch := omega) only [z_nI, z_lit, z_neg, z_add, z_sub, z_mul, z_lt, z_le, z_eq, z_in, z_cl]; omega)
      rw [rc_big hw k12 hk] at hp
      exact hp
set_option maxRecDepth 10000 in
theorem X_first {f so i : Int32} (hd : 70 ≤ d) (hI : SInv S) (hX : XR h G B S) (hp : ∀ h', XR h' G B (aFirst f so i S).2 → mKeep h h' B (B + 136) → post (some (.int (aFirst f so i S).1)) h') : MC G MX6_first d 0 0 [.ref B, .int f, .int so, .int i] h N post := by
  have h0 := hX.1
  have h8 := hI.1
  have hd1 : 1 ≤ d := by omega
  have hfa := hX.2.2.2.1
  unfold aFirst at hp
  refine MC.of (L0 := [some (.ref B), some (.int f), some (.int so), some (.int i)]) gd_X6_first (Nat.le_of_ble_eq_true rfl) rfl (MW.run gd_X6_first [46] 30 ?_)
  simp (disch := omega) only [↓EVi, ↓EVc, ↓ft_X6_first, ↓reduceIte, ↓EV_obs, ↓EV_obn, ↓EV_ais, ↓EV_ain, ↓EV_ob h0, mdF, mRun, List.mem_cons, List.not_mem_nil, or_false, mtab_eq, Nat.reduceEqDiff, Nat.zero_add, xO, hd1, mset2, b10, b00, not_true_eq_false, not_false_eq_true, true_implies, false_implies, implies_true, and_true, true_and, Nat.le_refl, true_or, or_true, eq_self, List.length_cons, List.length_nil, Nat.reduceAdd, Nat.reduceLT, Nat.reduceLeDiff]
  refine x_isFront hX ?_
  rcases isF_c S f hI with c | ⟨q, hq, rfl, c, hfr⟩
  · rw [if_neg c]
    rw [if_neg (fun z => c z.1)] at hp
    simp (disch := omega) only [↓EVi, ↓EVc, ↓ft_X6_first, ↓reduceIte, ↓EV_obs, ↓EV_obn, ↓EV_ais, ↓EV_ain, ↓EV_ob h0, mdF, mRun, List.mem_cons, List.not_mem_nil, or_false, mtab_eq, Nat.reduceEqDiff, Nat.zero_add, xO, hd1, mset2, b10, b00, not_true_eq_false, not_false_eq_true, true_implies, false_implies, implies_true, and_true, true_and, Nat.le_refl, true_or, or_true, eq_self, List.length_cons, List.length_nil, Nat.reduceAdd, Nat.reduceLT, Nat.reduceLeDiff]
    exact hp h hX mKeep_rfl
  rw [if_pos c]
  rw [hfr] at hp
  simp (disch := omega) only [↓EVi, ↓EVc, ↓ft_X6_first, ↓reduceIte, ↓EV_obs, ↓EV_obn, ↓EV_ais, ↓EV_ain, ↓EV_ob h0, mdF, mRun, List.mem_cons, List.not_mem_nil, or_false, mtab_eq, Nat.reduceEqDiff, Nat.zero_add, xO, hd1, mset2, b10, b00, not_true_eq_false, not_false_eq_true, true_implies, false_implies, implies_true, and_true, true_and, Nat.le_refl, true_or, or_true, eq_self, List.length_cons, List.length_nil, Nat.reduceAdd, Nat.reduceLT, Nat.reduceLeDiff]
  refine x_isSorz ?_
  by_cases c1 : 0 ≤ so ∧ so ≤ 2
  case neg =>
    rw [if_neg c1]
    rw [if_neg (fun z => c1 z.2.1)] at hp
    simp (disch := omega) only [↓EVi, ↓EVc, ↓ft_X6_first, ↓reduceIte, ↓EV_obs, ↓EV_obn, ↓EV_ais, ↓EV_ain, ↓EV_ob h0, mdF, mRun, List.mem_cons, List.not_mem_nil, or_false, mtab_eq, Nat.reduceEqDiff, Nat.zero_add, xO, hd1, mset2, b10, b00, not_true_eq_false, not_false_eq_true, true_implies, false_implies, implies_true, and_true, true_and, Nat.le_refl, true_or, or_true, eq_self, List.length_cons, List.length_nil, Nat.reduceAdd, Nat.reduceLT, Nat.reduceLeDiff]
    exact hp h hX mKeep_rfl
  rw [if_pos c1]
  obtain ⟨t, ht, rfl⟩ := arg_le so 2 (by decide) c1
  rw [nI_clamp (n := t) (by omega)] at hp
  have hw := hI.2.1 q hq
  have b12 := (vld_bd hw.1).2.2
  have hcq : (nI q).toNatClampNeg = q := nI_clamp (by omega)
  have vq : vp_in (nI q) 8 := vp_in_nI (by omega) (by decide)
  obtain ⟨hv, K, P, A, ⟨g0, g1, g2, g3⟩, hKP, hA⟩ := XR_F hX hq
  have g0' : h (xF B (nI q).toNatClampNeg) = some (.inr (0, [.ref (xF B q + 1), .ref (xF B q + 2), .ref (xF B q + 3), .int (nI (S.1.getD q []).length), .int (nI (crs (S.1.getD q [])))])) := by rw [hcq]; exact g0
  by_cases c2 : i < 0
  · rw [if_neg (fun z => absurd c2 (by rw [Int32.not_lt]; exact z.2.2.1))] at hp
    have f2 : (i < 0) = True := eq_true c2
    simp (disch := omega) only [↓EVk, ↓w_if_eq, ↓w_an_ite, ↓mEndK, ↓w_retK0, ↓w_fitK, ↓w_dupK, ↓w_dup2K, w_an_back, ↓EVd, ↓ft_X6_first, ↓reduceIte, ↓EV_obs, ↓EV_obn, ↓EV_ais, ↓EV_ain, ↓EV_ob h0, mdF, mRun, List.mem_cons, List.not_mem_nil, or_false, mtab_eq, Nat.reduceEqDiff, Nat.zero_add, xO, hd1, f2, mset2, b10, b00, not_true_eq_false, not_false_eq_true, true_implies, false_implies, implies_true, and_true, true_and, Nat.le_refl, true_or, or_true, eq_self, List.length_cons, List.length_nil, Nat.reduceAdd, Nat.reduceLT, Nat.reduceLeDiff]
    exact hp h hX mKeep_rfl
  have f2 : (i < 0) = False := eq_false c2
  by_cases c3 : i < nI (crs (S.1.getD q []))
  case neg =>
    rw [if_neg (fun z => c3 z.2.2.2)] at hp
    have f3 : (i < nI (crs (S.1.getD q []))) = False := eq_false c3
    simp (disch := omega) only [↓EVk, ↓w_if_eq, ↓w_an_ite, ↓mEndK, ↓w_retK0, ↓w_fitK, ↓w_dupK, ↓w_dup2K, w_an_back, ↓EVd, ↓ft_X6_first, ↓reduceIte, ↓EV_obs, ↓EV_obn, ↓EV_ais, ↓EV_ain, ↓EV_ob h0, ↓EV_ob g0', ↓EV_ar hfa, ↓EV_arn, mdF, mRun, List.mem_cons, List.not_mem_nil, or_false, mtab_eq, Nat.reduceEqDiff, Nat.zero_add, xO, hd1, f2, f3, vq, mset2, b10, b00, not_true_eq_false, not_false_eq_true, true_implies, false_implies, implies_true, and_true, true_and, Nat.le_refl, true_or, or_true, eq_self, List.length_cons, List.length_nil, Nat.reduceAdd, Nat.reduceLT, Nat.reduceLeDiff]
    exact hp h hX mKeep_rfl
  have f3 : (i < nI (crs (S.1.getD q []))) = True := eq_true c3
  have i0 : 0 ≤ i := by rw [← Int32.not_lt]; exact c2
  rw [if_pos ⟨c, c1, i0, c3⟩] at hp
  rcases arg_ix i (n := crs (S.1.getD q [])) (by omega) with z | ⟨w, hwc, rfl⟩
  · exact absurd ⟨i0, c3⟩ z
  rw [nI_clamp (n := w) (by omega)] at hp
  simp (disch := omega) only [↓EVk, ↓w_if_eq, ↓w_an_ite, ↓mEndK, ↓w_retK0, ↓w_fitK, ↓w_dupK, ↓w_dup2K, w_an_back, ↓EVd, ↓ft_X6_first, ↓reduceIte, ↓EV_obs, ↓EV_obn, ↓EV_ais, ↓EV_ain, ↓EV_ob h0, ↓EV_ob g0', ↓EV_ar hfa, ↓EV_arn, mdF, mRun, List.mem_cons, List.not_mem_nil, or_false, mtab_eq, Nat.reduceEqDiff, Nat.zero_add, xO, hd1, f2, f3, vq, mset2, b10, b00, not_true_eq_false, not_false_eq_true, true_implies, false_implies, implies_true, and_true, true_and, Nat.le_refl, true_or, or_true, eq_self, List.length_cons, List.length_nil, Nat.reduceAdd, Nat.reduceLT, Nat.reduceLeDiff]
  refine x_hasSort (by omega) hI hX hq ht (fun h1 hX1 hW1 hk1 => ?_)
  have hk1' : mKeep h h1 B (B + 136) := mKeep_in hk1 (by omega) (by omega)
  by_cases c4 : nI t = 2 ∧ 1 < nP (S.1.getD q [])
  · rw [if_pos c4]
    rw [if_pos c4] at hp
    simp (disch := omega) only [↓EVk, ↓w_if_eq, ↓w_an_ite, ↓mEndK, ↓w_retK0, ↓w_fitK, ↓w_dupK, ↓w_dup2K, w_an_back, ↓EVd, ↓ft_X6_first, ↓reduceIte, ↓EV_obs, ↓EV_obn, ↓EV_ais, ↓EV_ain, mdF, mRun, List.mem_cons, List.not_mem_nil, or_false, mtab_eq, Nat.reduceEqDiff, Nat.zero_add, mset2, b10, b00, not_true_eq_false, not_false_eq_true, true_implies, false_implies, implies_true, and_true, true_and, Nat.le_refl, true_or, or_true, eq_self, List.length_cons, List.length_nil, Nat.reduceAdd, Nat.reduceLT, Nat.reduceLeDiff]
    exact hp h1 hX1 hk1'
  rw [if_neg c4]
  rw [if_neg c4] at hp
  obtain ⟨qo, one, fnd, fst, R0, my0, fb0, hC⟩ := id hX1.2.2.2.2.2.2.2.1
  simp (disch := omega) only [↓EVk, ↓w_if_eq, ↓w_an_ite, ↓mEndK, ↓w_retK0, ↓w_fitK, ↓w_dupK, ↓w_dup2K, w_an_back, ↓EVd, ↓ft_X6_first, ↓reduceIte, ↓EV_obs, ↓EV_obn, ↓EV_ais, ↓EV_ain, mdF, mRun, List.mem_cons, List.not_mem_nil, or_false, mtab_eq, Nat.reduceEqDiff, Nat.zero_add, mset2, b10, b00, not_true_eq_false, not_false_eq_true, true_implies, false_implies, implies_true, and_true, true_and, Nat.le_refl, true_or, or_true, eq_self, List.length_cons, List.length_nil, Nat.reduceAdd, Nat.reduceLT, Nat.reduceLeDiff]
  refine MW.run1 gd_X6_first [] 30 ?_
  simp (disch := omega) only [↓EVk, ↓w_if_eq, ↓w_an_ite, ↓mEndK, ↓w_retK0, ↓w_fitK, ↓w_dupK, ↓w_dup2K, w_an_back, ↓EVd, ↓ft_X6_first, ↓reduceIte, ↓EV_obs, ↓EV_obn, ↓EV_ais, ↓EV_ain, ↓EV_ob hX1.1, ↓EV_ob hC.1, mdF, mRun, List.mem_cons, List.not_mem_nil, or_false, mtab_eq, Nat.reduceEqDiff, Nat.zero_add, xO, hd1, mset2, b10, b00, not_true_eq_false, not_false_eq_true, true_implies, false_implies, implies_true, and_true, true_and, Nat.le_refl, true_or, or_true, eq_self, List.length_cons, List.length_nil, Nat.reduceAdd, Nat.reduceLT, Nat.reduceLeDiff]
  refine s_all (o := true) (y := 1) MX3_findFirst (Or.inr ⟨rfl, rfl⟩) (by omega) hw (XR_F hX1 hq) hW1 hX1.2.2.2.2.2.2.2.1 (by unfold xF; omega) (by omega) ht (fun h2 R my fb hS2 hk2 => ?_)
  have hX2 := XR_sw hX1 hk2 (SwS_A hS2)
  have hk2' : mKeep h h2 B (B + 136) := mKeep_trans hk1' (mKeep_in hk2 (by omega) (by omega))
  replace hp := hp h2 hX2 hk2'
  have hh := fst_all (es := S.1.getD q []) (sort := t) hw
  generalize mks (S.1.getD q []) (mayF (S.1.getD q []) t) (S.1.getD q []).length 0 (fun _ => 0) 0 0 = l at hh hS2
  generalize hes : S.1.getD q [] = es at *
  have s0 := hS2.1.1
  cases hf : fsM es t (2 ^ crs es) 0 with
  | none =>
    rw [hf] at hp hh
    have hl : l = [] := List.head?_eq_none_iff.mp hh
    rw [hl] at s0
    have w1 : (nI (List.foldl ntS ns0 (tkO true ([] : List Nat))).1 = 0) = True := eq_true rfl
    simp (disch := omega) only [↓EVk, ↓w_if_eq, ↓w_an_ite, ↓mEndK, ↓w_retK0, ↓w_fitK, ↓w_dupK, ↓w_dup2K, w_an_back, ↓EVd, ↓ft_X6_first, ↓reduceIte, ↓EV_obs, ↓EV_obn, ↓EV_ais, ↓EV_ain, ↓EV_ob hX2.1, ↓EV_ob s0, mdF, mRun, List.mem_cons, List.not_mem_nil, or_false, mtab_eq, Nat.reduceEqDiff, Nat.zero_add, xO, hd1, w1, mset2, b10, b00, not_true_eq_false, not_false_eq_true, true_implies, false_implies, implies_true, and_true, true_and, Nat.le_refl, true_or, or_true, eq_self, List.length_cons, List.length_nil, Nat.reduceAdd, Nat.reduceLT, Nat.reduceLeDiff]
    exact hp
  | some s =>
    rw [hf] at hp hh
    cases l with
    | nil => cases hh
    | cons x l =>
      have hx : x = enc (bitsL (crs es) s) := Option.some.inj hh
      have w1 : (nI (List.foldl ntS ns0 (tkO true (x :: l))).1 = 0) = False := eq_false (by show ¬ nI 1 = 0; decide)
      have w2 : (List.foldl ntS ns0 (tkO true (x :: l))).2.1 = x := rfl
      have hlt := enc_lt (bitsL (crs es) s)
      rw [bits_len] at hlt
      have h12 := two12 b12
      have eb := enc_bit (bitsL (crs es) s) w (by rw [bits_len]; exact hwc)
      have eg : (bitsL (crs es) s).getD w false = bitL (crs es) s w := by
        unfold bitsL
        rw [List.getD_eq_getElem?_getD, List.getElem?_map, List.getElem?_range hwc]
        rfl
      have ew : nI x >>> (nI w &&& 31) &&& 1 = (if bitL (crs es) s w = true then 1 else 0) := by
        rw [sh_bit (by omega) (by omega), hx, eb, eg]
        cases bitL (crs es) s w <;> rfl
      simp (disch := omega) only [↓EVk, ↓w_if_eq, ↓w_an_ite, ↓mEndK, ↓w_retK0, ↓w_fitK, ↓w_dupK, ↓w_dup2K, w_an_back, ↓EVd, ↓ft_X6_first, ↓reduceIte, ↓EV_obs, ↓EV_obn, ↓EV_ais, ↓EV_ain, ↓EV_ob hX2.1, ↓EV_ob s0, mdF, mRun, List.mem_cons, List.not_mem_nil, or_false, mtab_eq, Nat.reduceEqDiff, Nat.zero_add, xO, hd1, w1, w2, ew, mset2, b10, b00, not_true_eq_false, not_false_eq_true, true_implies, false_implies, implies_true, and_true, true_and, Nat.le_refl, true_or, or_true, eq_self, List.length_cons, List.length_nil, Nat.reduceAdd, Nat.reduceLT, Nat.reduceLeDiff]
      exact hp
end XU
