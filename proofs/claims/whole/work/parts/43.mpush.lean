/-! the model: push, add -/
theorem b01 : ((0 : Int32) = 1) = False := by decide
theorem b21 : ((2 : Int32) = 1) = False := by decide
theorem bn0 : (nI 0 = (0 : Int32)) = True := eq_true rfl
theorem bn1 : (nI 1 = (0 : Int32)) = False := eq_false (by decide)
section MCS
variable {G : mG} {d N M : Nat} {S : AS} {h : mH} {post : Option Value → mH → Prop}
set_option maxRecDepth 10000 in
theorem M_push {f k i : Int32} (hd : 5 ≤ d) (hI : SInv S) (hR : MR h G M S) (hp : ∀ h', MR h' G M (aPush f k i S).2 → mKeep h h' M (M + 17) → post (some (.int (aPush f k i S).1)) h') : MC G MX7_push d 0 0 [.ref M, .int f, .int k, .int i] h N post := by
  have hR0 := hR
  have h8 := hI.1
  have hd1 : 1 ≤ d := by omega
  obtain ⟨v, a, hM, hL⟩ := hR
  have h0 := hM.1
  have a1' : h (M + 1) = some (.inl (gC G 0, 8, .inl (a 1))) := hM.2 1 (by decide) (by decide)
  refine MC.of (L0 := [some (.ref M), some (.int f), some (.int k), some (.int i), none, none, none, none]) gd_X7_push (Nat.le_of_ble_eq_true rfl) rfl (MW.run gd_X7_push [] 120 ?_)
  simp (disch := omega) only [↓EVi, ↓EVc, ↓ft_X7_push, ↓reduceIte, ↓EV_obs, ↓EV_obn, ↓EV_ais, ↓EV_ain, ↓EV_ob h0, mdF, mRun, List.mem_cons, List.not_mem_nil, or_false, mtab_eq, Nat.reduceEqDiff, Nat.zero_add, hd1, mset2, b10, b00, not_true_eq_false, not_false_eq_true, true_implies, false_implies, implies_true, and_true, true_and, Nat.le_refl, true_or, or_true, eq_self, List.length_cons, List.length_nil, Nat.reduceAdd, Nat.reduceLT, Nat.reduceLeDiff]
  refine c_isEvent (by omega) hI hM hL ?_
  unfold aPush at hp
  by_cases c : isF S f ∧ (0 ≤ i ∧ i < nI (fr S f).length)
  case neg =>
    rw [if_neg c]
    rw [if_neg (fun z => c ⟨z.1, z.2.1⟩)] at hp
    simp (disch := omega) only [↓EVi, ↓EVc, ↓ft_X7_push, ↓reduceIte, ↓EV_obs, ↓EV_obn, ↓EV_ais, ↓EV_ain, ↓EV_ob h0, mdF, mRun, List.mem_cons, List.not_mem_nil, or_false, mtab_eq, Nat.reduceEqDiff, Nat.zero_add, hd1, mset2, b10, b00, not_true_eq_false, not_false_eq_true, true_implies, false_implies, implies_true, and_true, true_and, Nat.le_refl, true_or, or_true, eq_self, List.length_cons, List.length_nil, Nat.reduceAdd, Nat.reduceLT, Nat.reduceLeDiff]
    exact hp h hR0 mKeep_rfl
  rw [if_pos c]
  simp (disch := omega) only [↓EVi, ↓EVc, ↓ft_X7_push, ↓reduceIte, ↓EV_obs, ↓EV_obn, ↓EV_ais, ↓EV_ain, ↓EV_ob h0, mdF, mRun, List.mem_cons, List.not_mem_nil, or_false, mtab_eq, Nat.reduceEqDiff, Nat.zero_add, hd1, mset2, b10, b00, not_true_eq_false, not_false_eq_true, true_implies, false_implies, implies_true, and_true, true_and, Nat.le_refl, true_or, or_true, eq_self, List.length_cons, List.length_nil, Nat.reduceAdd, Nat.reduceLT, Nat.reduceLeDiff]
  refine m_in32 (lo := 0) (hi := 1) ?_
  by_cases c2 : 0 ≤ k ∧ k ≤ 1
  case neg =>
    rw [if_neg c2]
    rw [if_neg (fun z => c2 z.2.2)] at hp
    simp (disch := omega) only [↓EVi, ↓EVc, ↓ft_X7_push, ↓reduceIte, ↓EV_obs, ↓EV_obn, ↓EV_ais, ↓EV_ain, ↓EV_ob h0, mdF, mRun, List.mem_cons, List.not_mem_nil, or_false, mtab_eq, Nat.reduceEqDiff, Nat.zero_add, hd1, mset2, b10, b00, not_true_eq_false, not_false_eq_true, true_implies, false_implies, implies_true, and_true, true_and, Nat.le_refl, true_or, or_true, eq_self, List.length_cons, List.length_nil, Nat.reduceAdd, Nat.reduceLT, Nat.reduceLeDiff]
    exact hp h hR0 mKeep_rfl
  rw [if_pos c2]
  rw [if_pos ⟨c.1, c.2, c2⟩] at hp
  simp (disch := omega) only [↓EVi, ↓EVc, ↓ft_X7_push, ↓reduceIte, ↓EV_obs, ↓EV_obn, ↓EV_ais, ↓EV_ain, ↓EV_ob h0, mdF, mRun, List.mem_cons, List.not_mem_nil, or_false, mtab_eq, Nat.reduceEqDiff, Nat.zero_add, hd1, mset2, b10, b00, not_true_eq_false, not_false_eq_true, true_implies, false_implies, implies_true, and_true, true_and, Nat.le_refl, true_or, or_true, eq_self, List.length_cons, List.length_nil, Nat.reduceAdd, Nat.reduceLT, Nat.reduceLeDiff]
  rcases isF_c S f hI with z | ⟨q, hq, rfl, -, hfr⟩
  · exact absurd c.1 z
  have hw := hI.2.1 q hq
  have hs := hL.2.1 q hq
  have b := vld_bd hw.1
  rcases arg_ix i (n := (fr S (nI q)).length) (by rw [hfr]; omega) with z | ⟨j, hj, rfl⟩
  · exact absurd c.2 z
  obtain ⟨r, hr, rfl⟩ := arg_le k 1 (by decide) c2
  rw [hfr] at hp hj
  rw [nI_clamp (n := q) (by omega), nI_clamp (n := j) (by omega), nI_clamp (n := r) (by omega)] at hp
  have hcf : (nI q).toNatClampNeg = q := nI_clamp (by omega)
  have vq : vp_in (nI q) 8 := vp_in_nI (by omega) (by decide)
  have s1 := vld_sm hw.1 (i := j) hj
  have hA := (vld_le hw.1 j (by omega)).2.1
  have mo := (mid_ok hw.1 j 1).1
  rw [dt1 hj] at mo
  simp only [sS, and_true] at mo
  have pk : pA (S.1.getD q []) j = nI (evP (S.1.getD q []) j) := if_pos hj
  have none_ : psP (S.1.getD q []) r j = none → post (some (.int (-2))) h := by
    intro z
    rw [z, aRepl_none] at hp
    exact hp h ⟨v, a, hM, hL⟩ mKeep_rfl
  have po := fun g ps => push_ok hw.1 (kind := r) (g := g) (ps := ps) hj
  have x30 : (30 < nI (S.1.getD q []).length + 2) ↔ 30 < (S.1.getD q []).length + 2 := by simp (disch := omega) only [z_nI, z_lit, z_neg, z_add, z_sub, z_mul, z_lt, z_le, z_eq, z_in, z_cl]; omega
  have x12 : (nI (crs (S.1.getD q [])) + 2 ≤ 12) ↔ ¬ 12 < crs (S.1.getD q []) + 2 := by simp (disch := omega) only [z_nI, z_lit, z_neg, z_add, z_sub, z_mul, z_lt, z_le, z_eq, z_in, z_cl]; omega
  refine c_kindAt hM hs (by omega) b.1 (by omega) ?_
  rcases (by omega : r = 0 ∨ r = 1) with rfl | rfl <;> rcases (by omega : evK (S.1.getD q []) j = 0 ∨ evK (S.1.getD q []) j = 1 ∨ evK (S.1.getD q []) j = 2) with he | he | he
  · have ke : kA (S.1.getD q []) j = 0 := by unfold kA; rw [if_pos hj, he]; rfl
    rw [he] at mo
    simp (disch := omega) only [↓EVi, ↓EVc, ↓ft_X7_push, ↓reduceIte, ↓EV_obs, ↓EV_obn, ↓EV_ais, ↓EV_ain, ↓EV_ob h0, ↓EV_ai a1', mdF, mRun, List.mem_cons, List.not_mem_nil, or_false, mtab_eq, Nat.reduceEqDiff, Nat.zero_add, hd1, ke, pk, b02, b12, b20, b01, b21, bn0, bn1, mset2, b10, b00, not_true_eq_false, not_false_eq_true, true_implies, false_implies, implies_true, and_true, true_and, Nat.le_refl, true_or, or_true, eq_self, List.length_cons, List.length_nil, Nat.reduceAdd, Nat.reduceLT, Nat.reduceLeDiff]
    refine c_numberAt hM hs (by omega) b.1 (by omega) ?_
    simp (disch := omega) only [↓EVi, ↓EVc, ↓ft_X7_push, ↓reduceIte, ↓EV_obs, ↓EV_obn, ↓EV_ais, ↓EV_ain, ↓EV_ob h0, ↓EV_ai a1', mdF, mRun, List.mem_cons, List.not_mem_nil, or_false, mtab_eq, Nat.reduceEqDiff, Nat.zero_add, hd1, ke, pk, b02, b12, b20, b01, b21, bn0, bn1, mset2, b10, b00, not_true_eq_false, not_false_eq_true, true_implies, false_implies, implies_true, and_true, true_and, Nat.le_refl, true_or, or_true, eq_self, List.length_cons, List.length_nil, Nat.reduceAdd, Nat.reduceLT, Nat.reduceLeDiff]
    refine m_ahead (by omega) hM hs hw.1 (by omega) (by omega) ?_
    simp (disch := omega) only [↓EVi, ↓EVc, ↓ft_X7_push, ↓reduceIte, ↓EV_obs, ↓EV_obn, ↓EV_ais, ↓EV_ain, ↓EV_ob h0, ↓EV_ai a1', mdF, mRun, List.mem_cons, List.not_mem_nil, or_false, mtab_eq, Nat.reduceEqDiff, Nat.zero_add, hd1, ke, pk, b02, b12, b20, b01, b21, bn0, bn1, mset2, b10, b00, not_true_eq_false, not_false_eq_true, true_implies, false_implies, implies_true, and_true, true_and, Nat.le_refl, true_or, or_true, eq_self, List.length_cons, List.length_nil, Nat.reduceAdd, Nat.reduceLT, Nat.reduceLeDiff]
    refine m_in32 (lo := 0) ?_
    have m1 : evP (S.1.getD q []) j ≤ ahL ((S.1.getD q []).take j) := by have q2 := mo.2.2; rw [if_pos rfl] at q2; exact q2
    have eW : (0 ≤ nI (evP (S.1.getD q []) j) - 1 ∧ nI (evP (S.1.getD q []) j) - 1 ≤ nI (ahL ((S.1.getD q []).take j)) - 1) ↔ 1 ≤ evP (S.1.getD q []) j := by simp (disch := omega) only [z_nI, z_lit, z_neg, z_add, z_sub, z_mul, z_lt, z_le, z_eq, z_in, z_cl]; omega
    simp only [eW]
    by_cases cw : 1 ≤ evP (S.1.getD q []) j
    case neg =>
      rw [if_neg cw]
      simp (disch := omega) only [↓EVi, ↓EVc, ↓ft_X7_push, ↓reduceIte, ↓EV_obs, ↓EV_obn, ↓EV_ais, ↓EV_ain, ↓EV_ob h0, ↓EV_ai a1', mdF, mRun, List.mem_cons, List.not_mem_nil, or_false, mtab_eq, Nat.reduceEqDiff, Nat.zero_add, hd1, ke, pk, b02, b12, b20, b01, b21, bn0, bn1, mset2, b10, b00, not_true_eq_false, not_false_eq_true, true_implies, false_implies, implies_true, and_true, true_and, Nat.le_refl, true_or, or_true, eq_self, List.length_cons, List.length_nil, Nat.reduceAdd, Nat.reduceLT, Nat.reduceLeDiff]
      refine none_ ?_
      unfold psP
      rw [if_pos he, if_pos rfl, if_neg cw]
    have pl : psP (S.1.getD q []) 0 j = some (1, [(0, evP (S.1.getD q []) j - 1), (1, evP (S.1.getD q []) j), (1, evP (S.1.getD q []) j - 1)]) := by
      unfold psP
      rw [if_pos he, if_pos rfl, if_pos cw]
    obtain ⟨gg, -, -, vi⟩ := po _ _ pl
    rw [if_pos cw]
    simp (disch := omega) only [↓EVi, ↓EVc, ↓ft_X7_push, ↓reduceIte, ↓EV_obs, ↓EV_obn, ↓EV_ais, ↓EV_ain, ↓EV_ob h0, ↓EV_ai a1', mdF, mRun, List.mem_cons, List.not_mem_nil, or_false, mtab_eq, Nat.reduceEqDiff, Nat.zero_add, hd1, ke, pk, b02, b12, b20, b01, b21, bn0, bn1, mset2, b10, b00, not_true_eq_false, not_false_eq_true, true_implies, false_implies, implies_true, and_true, true_and, Nat.le_refl, true_or, or_true, eq_self, List.length_cons, List.length_nil, Nat.reduceAdd, Nat.reduceLT, Nat.reduceLeDiff]
    rw [hcf, hs.1]
    have no : (30 < (S.1.getD q []).length + 2 ∨ 12 < crs (S.1.getD q []) + 2) → post (some (.int (-3))) h := by
      intro z
      rw [pl, aRepl_full (fun y => vi.mp y z)] at hp
      exact hp h hR0 mKeep_rfl
    refine ⟨vq, fun y => no (Or.inl (x30.mp y)), fun y => m_crossesOf hM hs hw.1 (by omega) ?_⟩
    simp (disch := omega) only [↓EVi, ↓EVc, ↓ft_X7_push, ↓reduceIte, ↓EV_obs, ↓EV_obn, ↓EV_ais, ↓EV_ain, ↓EV_ob h0, ↓EV_ai a1', mdF, mRun, List.mem_cons, List.not_mem_nil, or_false, mtab_eq, Nat.reduceEqDiff, Nat.zero_add, hd1, ke, pk, b02, b12, b20, b01, b21, bn0, bn1, mset2, b10, b00, not_true_eq_false, not_false_eq_true, true_implies, false_implies, implies_true, and_true, true_and, Nat.le_refl, true_or, or_true, eq_self, List.length_cons, List.length_nil, Nat.reduceAdd, Nat.reduceLT, Nat.reduceLeDiff]
    refine ⟨fun y2 => ?_, fun y2 => no (Or.inr (Classical.not_not.mp (fun z => y2 (x12.mpr z))))⟩
    have vv := vi.mpr (fun z => z.elim (fun z => y (x30.mpr z)) (x12.mp y2))
    rw [pl, aRepl_some vv] at hp
    refine n_zero (by omega) hI hM hL hq (by omega) (fun h1 v1 a1 hM1 hL1 hN1 hk1 => ?_)
    simp (disch := omega) only [↓EVi, ↓EVc, ↓ft_X7_push, ↓reduceIte, ↓EV_obs, ↓EV_obn, ↓EV_ais, ↓EV_ain, ↓EV_ob hM1.1, ↓EV_ai a1', mdF, mRun, List.mem_cons, List.not_mem_nil, or_false, mtab_eq, Nat.reduceEqDiff, Nat.zero_add, hd1, ke, pk, b02, b12, b20, b01, b21, bn0, bn1, mset2, b10, b00, not_true_eq_false, not_false_eq_true, true_implies, false_implies, implies_true, and_true, true_and, Nat.le_refl, true_or, or_true, eq_self, List.length_cons, List.length_nil, Nat.reduceAdd, Nat.reduceLT, Nat.reduceLeDiff]
    refine n_put (k := 0) (p := evP (S.1.getD q []) j - 1) hM1 hL1 hN1 (by simp only [List.length_append, List.length_take, List.length_cons, List.length_nil]; omega) rfl (by simp (disch := omega) only [z_nI, z_lit, z_neg, z_add, z_sub, z_mul, z_lt, z_le, z_eq, z_in, z_cl]; omega) (fun h2 v2 a2 hM2 hL2 hN2 hk2 => ?_)
    simp (disch := omega) only [↓EVi, ↓EVc, ↓ft_X7_push, ↓reduceIte, ↓EV_obs, ↓EV_obn, ↓EV_ais, ↓EV_ain, ↓EV_ob hM2.1, ↓EV_ai a1', mdF, mRun, List.mem_cons, List.not_mem_nil, or_false, mtab_eq, Nat.reduceEqDiff, Nat.zero_add, hd1, ke, pk, b02, b12, b20, b01, b21, bn0, bn1, mset2, b10, b00, not_true_eq_false, not_false_eq_true, true_implies, false_implies, implies_true, and_true, true_and, Nat.le_refl, true_or, or_true, eq_self, List.length_cons, List.length_nil, Nat.reduceAdd, Nat.reduceLT, Nat.reduceLeDiff]
    refine n_put (k := 1) (p := evP (S.1.getD q []) j) hM2 hL2 hN2 (by simp only [List.length_append, List.length_take, List.length_cons, List.length_nil]; omega) rfl (rfl) (fun h3 v3 a3 hM3 hL3 hN3 hk3 => ?_)
    simp (disch := omega) only [↓EVi, ↓EVc, ↓ft_X7_push, ↓reduceIte, ↓EV_obs, ↓EV_obn, ↓EV_ais, ↓EV_ain, ↓EV_ob hM3.1, ↓EV_ai a1', mdF, mRun, List.mem_cons, List.not_mem_nil, or_false, mtab_eq, Nat.reduceEqDiff, Nat.zero_add, hd1, ke, pk, b02, b12, b20, b01, b21, bn0, bn1, mset2, b10, b00, not_true_eq_false, not_false_eq_true, true_implies, false_implies, implies_true, and_true, true_and, Nat.le_refl, true_or, or_true, eq_self, List.length_cons, List.length_nil, Nat.reduceAdd, Nat.reduceLT, Nat.reduceLeDiff]
    refine n_put (k := 1) (p := evP (S.1.getD q []) j - 1) hM3 hL3 hN3 (by simp only [List.length_append, List.length_take, List.length_cons, List.length_nil]; omega) rfl (by simp (disch := omega) only [z_nI, z_lit, z_neg, z_add, z_sub, z_mul, z_lt, z_le, z_eq, z_in, z_cl]; omega) (fun h4 v4 a4 hM4 hL4 hN4 hk4 => ?_)
    simp (disch := omega) only [↓EVi, ↓EVc, ↓ft_X7_push, ↓reduceIte, ↓EV_obs, ↓EV_obn, ↓EV_ais, ↓EV_ain, ↓EV_ob hM4.1, ↓EV_ai a1', mdF, mRun, List.mem_cons, List.not_mem_nil, or_false, mtab_eq, Nat.reduceEqDiff, Nat.zero_add, hd1, ke, pk, b02, b12, b20, b01, b21, bn0, bn1, mset2, b10, b00, not_true_eq_false, not_false_eq_true, true_implies, false_implies, implies_true, and_true, true_and, Nat.le_refl, true_or, or_true, eq_self, List.length_cons, List.length_nil, Nat.reduceAdd, Nat.reduceLT, Nat.reduceLeDiff]
    refine n_rest (j := j + 1) (by omega) hI hM4 hL4 hN4 hq (nI_1 j) (by omega) ?_ (fun h9 hR9 hk9 => ?_)
    · have := (vld_bd vv).1
      simp only [repl, List.length_append, List.length_take, List.length_drop, List.length_cons, List.length_nil] at this ⊢
      omega
    simp (disch := omega) only [↓EVi, ↓EVc, ↓ft_X7_push, ↓reduceIte, ↓EV_obs, ↓EV_obn, ↓EV_ais, ↓EV_ain, mdF, mRun, List.mem_cons, List.not_mem_nil, or_false, mtab_eq, Nat.reduceEqDiff, Nat.zero_add, hd1, mset2, b10, b00, not_true_eq_false, not_false_eq_true, true_implies, false_implies, implies_true, and_true, true_and, Nat.le_refl, true_or, or_true, eq_self, List.length_cons, List.length_nil, Nat.reduceAdd, Nat.reduceLT, Nat.reduceLeDiff]
    have key := hp h9 (by simpa only [repl, List.append_assoc, List.cons_append, List.nil_append, List.append_nil] using hR9) (mKeep_trans (mKeep_trans (mKeep_trans (mKeep_trans hk1 hk2) hk3) hk4) hk9)
    simpa only [repl, List.append_assoc, List.cons_append, List.nil_append, List.append_nil] using key
  · have ke : kA (S.1.getD q []) j = 1 := by unfold kA; rw [if_pos hj, he]; rfl
    rw [he] at mo
    simp (disch := omega) only [↓EVi, ↓EVc, ↓ft_X7_push, ↓reduceIte, ↓EV_obs, ↓EV_obn, ↓EV_ais, ↓EV_ain, ↓EV_ob h0, ↓EV_ai a1', mdF, mRun, List.mem_cons, List.not_mem_nil, or_false, mtab_eq, Nat.reduceEqDiff, Nat.zero_add, hd1, ke, pk, b02, b12, b20, b01, b21, bn0, bn1, mset2, b10, b00, not_true_eq_false, not_false_eq_true, true_implies, false_implies, implies_true, and_true, true_and, Nat.le_refl, true_or, or_true, eq_self, List.length_cons, List.length_nil, Nat.reduceAdd, Nat.reduceLT, Nat.reduceLeDiff]
    refine c_numberAt hM hs (by omega) b.1 (by omega) ?_
    simp (disch := omega) only [↓EVi, ↓EVc, ↓ft_X7_push, ↓reduceIte, ↓EV_obs, ↓EV_obn, ↓EV_ais, ↓EV_ain, ↓EV_ob h0, ↓EV_ai a1', mdF, mRun, List.mem_cons, List.not_mem_nil, or_false, mtab_eq, Nat.reduceEqDiff, Nat.zero_add, hd1, ke, pk, b02, b12, b20, b01, b21, bn0, bn1, mset2, b10, b00, not_true_eq_false, not_false_eq_true, true_implies, false_implies, implies_true, and_true, true_and, Nat.le_refl, true_or, or_true, eq_self, List.length_cons, List.length_nil, Nat.reduceAdd, Nat.reduceLT, Nat.reduceLeDiff]
    refine none_ ?_
    unfold psP
    rw [if_neg (by omega), if_neg (by omega)]
  · have ke : kA (S.1.getD q []) j = 2 := by unfold kA; rw [if_pos hj, he]; rfl
    rw [he] at mo
    simp (disch := omega) only [↓EVi, ↓EVc, ↓ft_X7_push, ↓reduceIte, ↓EV_obs, ↓EV_obn, ↓EV_ais, ↓EV_ain, ↓EV_ob h0, ↓EV_ai a1', mdF, mRun, List.mem_cons, List.not_mem_nil, or_false, mtab_eq, Nat.reduceEqDiff, Nat.zero_add, hd1, ke, pk, b02, b12, b20, b01, b21, bn0, bn1, mset2, b10, b00, not_true_eq_false, not_false_eq_true, true_implies, false_implies, implies_true, and_true, true_and, Nat.le_refl, true_or, or_true, eq_self, List.length_cons, List.length_nil, Nat.reduceAdd, Nat.reduceLT, Nat.reduceLeDiff]
    refine c_numberAt hM hs (by omega) b.1 (by omega) ?_
    simp (disch := omega) only [↓EVi, ↓EVc, ↓ft_X7_push, ↓reduceIte, ↓EV_obs, ↓EV_obn, ↓EV_ais, ↓EV_ain, ↓EV_ob h0, ↓EV_ai a1', mdF, mRun, List.mem_cons, List.not_mem_nil, or_false, mtab_eq, Nat.reduceEqDiff, Nat.zero_add, hd1, ke, pk, b02, b12, b20, b01, b21, bn0, bn1, mset2, b10, b00, not_true_eq_false, not_false_eq_true, true_implies, false_implies, implies_true, and_true, true_and, Nat.le_refl, true_or, or_true, eq_self, List.length_cons, List.length_nil, Nat.reduceAdd, Nat.reduceLT, Nat.reduceLeDiff]
    refine m_ahead (by omega) hM hs hw.1 (by omega) (by omega) ?_
    simp (disch := omega) only [↓EVi, ↓EVc, ↓ft_X7_push, ↓reduceIte, ↓EV_obs, ↓EV_obn, ↓EV_ais, ↓EV_ain, ↓EV_ob h0, ↓EV_ai a1', mdF, mRun, List.mem_cons, List.not_mem_nil, or_false, mtab_eq, Nat.reduceEqDiff, Nat.zero_add, hd1, ke, pk, b02, b12, b20, b01, b21, bn0, bn1, mset2, b10, b00, not_true_eq_false, not_false_eq_true, true_implies, false_implies, implies_true, and_true, true_and, Nat.le_refl, true_or, or_true, eq_self, List.length_cons, List.length_nil, Nat.reduceAdd, Nat.reduceLT, Nat.reduceLeDiff]
    refine m_in32 (lo := 0) ?_
    have m1 : evP (S.1.getD q []) j + 2 ≤ ahL ((S.1.getD q []).take j) := by have q2 := mo.2.2; rw [if_neg (by decide)] at q2; exact q2
    have eW : (0 ≤ nI (evP (S.1.getD q []) j) - 1 ∧ nI (evP (S.1.getD q []) j) - 1 ≤ nI (ahL ((S.1.getD q []).take j)) - 1) ↔ 1 ≤ evP (S.1.getD q []) j := by simp (disch := omega) only [z_nI, z_lit, z_neg, z_add, z_sub, z_mul, z_lt, z_le, z_eq, z_in, z_cl]; omega
    simp only [eW]
    by_cases cw : 1 ≤ evP (S.1.getD q []) j
    case neg =>
      rw [if_neg cw]
      simp (disch := omega) only [↓EVi, ↓EVc, ↓ft_X7_push, ↓reduceIte, ↓EV_obs, ↓EV_obn, ↓EV_ais, ↓EV_ain, ↓EV_ob h0, ↓EV_ai a1', mdF, mRun, List.mem_cons, List.not_mem_nil, or_false, mtab_eq, Nat.reduceEqDiff, Nat.zero_add, hd1, ke, pk, b02, b12, b20, b01, b21, bn0, bn1, mset2, b10, b00, not_true_eq_false, not_false_eq_true, true_implies, false_implies, implies_true, and_true, true_and, Nat.le_refl, true_or, or_true, eq_self, List.length_cons, List.length_nil, Nat.reduceAdd, Nat.reduceLT, Nat.reduceLeDiff]
      refine none_ ?_
      unfold psP
      rw [if_neg (by omega), if_pos he, if_pos rfl, if_neg cw]
    have pl : psP (S.1.getD q []) 0 j = some (1, [(1, evP (S.1.getD q []) j - 1), (1, evP (S.1.getD q []) j), (2, evP (S.1.getD q []) j - 1)]) := by
      unfold psP
      rw [if_neg (by omega), if_pos he, if_pos rfl, if_pos cw]
    obtain ⟨gg, -, -, vi⟩ := po _ _ pl
    rw [if_pos cw]
    simp (disch := omega) only [↓EVi, ↓EVc, ↓ft_X7_push, ↓reduceIte, ↓EV_obs, ↓EV_obn, ↓EV_ais, ↓EV_ain, ↓EV_ob h0, ↓EV_ai a1', mdF, mRun, List.mem_cons, List.not_mem_nil, or_false, mtab_eq, Nat.reduceEqDiff, Nat.zero_add, hd1, ke, pk, b02, b12, b20, b01, b21, bn0, bn1, mset2, b10, b00, not_true_eq_false, not_false_eq_true, true_implies, false_implies, implies_true, and_true, true_and, Nat.le_refl, true_or, or_true, eq_self, List.length_cons, List.length_nil, Nat.reduceAdd, Nat.reduceLT, Nat.reduceLeDiff]
    rw [hcf, hs.1]
    have no : (30 < (S.1.getD q []).length + 2 ∨ 12 < crs (S.1.getD q []) + 2) → post (some (.int (-3))) h := by
      intro z
      rw [pl, aRepl_full (fun y => vi.mp y z)] at hp
      exact hp h hR0 mKeep_rfl
    refine ⟨vq, fun y => no (Or.inl (x30.mp y)), fun y => m_crossesOf hM hs hw.1 (by omega) ?_⟩
    simp (disch := omega) only [↓EVi, ↓EVc, ↓ft_X7_push, ↓reduceIte, ↓EV_obs, ↓EV_obn, ↓EV_ais, ↓EV_ain, ↓EV_ob h0, ↓EV_ai a1', mdF, mRun, List.mem_cons, List.not_mem_nil, or_false, mtab_eq, Nat.reduceEqDiff, Nat.zero_add, hd1, ke, pk, b02, b12, b20, b01, b21, bn0, bn1, mset2, b10, b00, not_true_eq_false, not_false_eq_true, true_implies, false_implies, implies_true, and_true, true_and, Nat.le_refl, true_or, or_true, eq_self, List.length_cons, List.length_nil, Nat.reduceAdd, Nat.reduceLT, Nat.reduceLeDiff]
    refine ⟨fun y2 => ?_, fun y2 => no (Or.inr (Classical.not_not.mp (fun z => y2 (x12.mpr z))))⟩
    have vv := vi.mpr (fun z => z.elim (fun z => y (x30.mpr z)) (x12.mp y2))
    rw [pl, aRepl_some vv] at hp
    refine n_zero (by omega) hI hM hL hq (by omega) (fun h1 v1 a1 hM1 hL1 hN1 hk1 => ?_)
    simp (disch := omega) only [↓EVi, ↓EVc, ↓ft_X7_push, ↓reduceIte, ↓EV_obs, ↓EV_obn, ↓EV_ais, ↓EV_ain, ↓EV_ob hM1.1, ↓EV_ai a1', mdF, mRun, List.mem_cons, List.not_mem_nil, or_false, mtab_eq, Nat.reduceEqDiff, Nat.zero_add, hd1, ke, pk, b02, b12, b20, b01, b21, bn0, bn1, mset2, b10, b00, not_true_eq_false, not_false_eq_true, true_implies, false_implies, implies_true, and_true, true_and, Nat.le_refl, true_or, or_true, eq_self, List.length_cons, List.length_nil, Nat.reduceAdd, Nat.reduceLT, Nat.reduceLeDiff]
    refine n_put (k := 1) (p := evP (S.1.getD q []) j - 1) hM1 hL1 hN1 (by simp only [List.length_append, List.length_take, List.length_cons, List.length_nil]; omega) rfl (by simp (disch := omega) only [z_nI, z_lit, z_neg, z_add, z_sub, z_mul, z_lt, z_le, z_eq, z_in, z_cl]; omega) (fun h2 v2 a2 hM2 hL2 hN2 hk2 => ?_)
    simp (disch := omega) only [↓EVi, ↓EVc, ↓ft_X7_push, ↓reduceIte, ↓EV_obs, ↓EV_obn, ↓EV_ais, ↓EV_ain, ↓EV_ob hM2.1, ↓EV_ai a1', mdF, mRun, List.mem_cons, List.not_mem_nil, or_false, mtab_eq, Nat.reduceEqDiff, Nat.zero_add, hd1, ke, pk, b02, b12, b20, b01, b21, bn0, bn1, mset2, b10, b00, not_true_eq_false, not_false_eq_true, true_implies, false_implies, implies_true, and_true, true_and, Nat.le_refl, true_or, or_true, eq_self, List.length_cons, List.length_nil, Nat.reduceAdd, Nat.reduceLT, Nat.reduceLeDiff]
    refine n_put (k := 1) (p := evP (S.1.getD q []) j) hM2 hL2 hN2 (by simp only [List.length_append, List.length_take, List.length_cons, List.length_nil]; omega) rfl (rfl) (fun h3 v3 a3 hM3 hL3 hN3 hk3 => ?_)
    simp (disch := omega) only [↓EVi, ↓EVc, ↓ft_X7_push, ↓reduceIte, ↓EV_obs, ↓EV_obn, ↓EV_ais, ↓EV_ain, ↓EV_ob hM3.1, ↓EV_ai a1', mdF, mRun, List.mem_cons, List.not_mem_nil, or_false, mtab_eq, Nat.reduceEqDiff, Nat.zero_add, hd1, ke, pk, b02, b12, b20, b01, b21, bn0, bn1, mset2, b10, b00, not_true_eq_false, not_false_eq_true, true_implies, false_implies, implies_true, and_true, true_and, Nat.le_refl, true_or, or_true, eq_self, List.length_cons, List.length_nil, Nat.reduceAdd, Nat.reduceLT, Nat.reduceLeDiff]
    refine n_put (k := 2) (p := evP (S.1.getD q []) j - 1) hM3 hL3 hN3 (by simp only [List.length_append, List.length_take, List.length_cons, List.length_nil]; omega) rfl (by simp (disch := omega) only [z_nI, z_lit, z_neg, z_add, z_sub, z_mul, z_lt, z_le, z_eq, z_in, z_cl]; omega) (fun h4 v4 a4 hM4 hL4 hN4 hk4 => ?_)
    simp (disch := omega) only [↓EVi, ↓EVc, ↓ft_X7_push, ↓reduceIte, ↓EV_obs, ↓EV_obn, ↓EV_ais, ↓EV_ain, ↓EV_ob hM4.1, ↓EV_ai a1', mdF, mRun, List.mem_cons, List.not_mem_nil, or_false, mtab_eq, Nat.reduceEqDiff, Nat.zero_add, hd1, ke, pk, b02, b12, b20, b01, b21, bn0, bn1, mset2, b10, b00, not_true_eq_false, not_false_eq_true, true_implies, false_implies, implies_true, and_true, true_and, Nat.le_refl, true_or, or_true, eq_self, List.length_cons, List.length_nil, Nat.reduceAdd, Nat.reduceLT, Nat.reduceLeDiff]
    refine n_rest (j := j + 1) (by omega) hI hM4 hL4 hN4 hq (nI_1 j) (by omega) ?_ (fun h9 hR9 hk9 => ?_)
    · have := (vld_bd vv).1
      simp only [repl, List.length_append, List.length_take, List.length_drop, List.length_cons, List.length_nil] at this ⊢
      omega
    simp (disch := omega) only [↓EVi, ↓EVc, ↓ft_X7_push, ↓reduceIte, ↓EV_obs, ↓EV_obn, ↓EV_ais, ↓EV_ain, mdF, mRun, List.mem_cons, List.not_mem_nil, or_false, mtab_eq, Nat.reduceEqDiff, Nat.zero_add, hd1, mset2, b10, b00, not_true_eq_false, not_false_eq_true, true_implies, false_implies, implies_true, and_true, true_and, Nat.le_refl, true_or, or_true, eq_self, List.length_cons, List.length_nil, Nat.reduceAdd, Nat.reduceLT, Nat.reduceLeDiff]
    have key := hp h9 (by simpa only [repl, List.append_assoc, List.cons_append, List.nil_append, List.append_nil] using hR9) (mKeep_trans (mKeep_trans (mKeep_trans (mKeep_trans hk1 hk2) hk3) hk4) hk9)
    simpa only [repl, List.append_assoc, List.cons_append, List.nil_append, List.append_nil] using key
  · have ke : kA (S.1.getD q []) j = 0 := by unfold kA; rw [if_pos hj, he]; rfl
    rw [he] at mo
    simp (disch := omega) only [↓EVi, ↓EVc, ↓ft_X7_push, ↓reduceIte, ↓EV_obs, ↓EV_obn, ↓EV_ais, ↓EV_ain, ↓EV_ob h0, ↓EV_ai a1', mdF, mRun, List.mem_cons, List.not_mem_nil, or_false, mtab_eq, Nat.reduceEqDiff, Nat.zero_add, hd1, ke, pk, b02, b12, b20, b01, b21, bn0, bn1, mset2, b10, b00, not_true_eq_false, not_false_eq_true, true_implies, false_implies, implies_true, and_true, true_and, Nat.le_refl, true_or, or_true, eq_self, List.length_cons, List.length_nil, Nat.reduceAdd, Nat.reduceLT, Nat.reduceLeDiff]
    refine c_numberAt hM hs (by omega) b.1 (by omega) ?_
    simp (disch := omega) only [↓EVi, ↓EVc, ↓ft_X7_push, ↓reduceIte, ↓EV_obs, ↓EV_obn, ↓EV_ais, ↓EV_ain, ↓EV_ob h0, ↓EV_ai a1', mdF, mRun, List.mem_cons, List.not_mem_nil, or_false, mtab_eq, Nat.reduceEqDiff, Nat.zero_add, hd1, ke, pk, b02, b12, b20, b01, b21, bn0, bn1, mset2, b10, b00, not_true_eq_false, not_false_eq_true, true_implies, false_implies, implies_true, and_true, true_and, Nat.le_refl, true_or, or_true, eq_self, List.length_cons, List.length_nil, Nat.reduceAdd, Nat.reduceLT, Nat.reduceLeDiff]
    refine m_ahead (by omega) hM hs hw.1 (by omega) (by omega) ?_
    simp (disch := omega) only [↓EVi, ↓EVc, ↓ft_X7_push, ↓reduceIte, ↓EV_obs, ↓EV_obn, ↓EV_ais, ↓EV_ain, ↓EV_ob h0, ↓EV_ai a1', mdF, mRun, List.mem_cons, List.not_mem_nil, or_false, mtab_eq, Nat.reduceEqDiff, Nat.zero_add, hd1, ke, pk, b02, b12, b20, b01, b21, bn0, bn1, mset2, b10, b00, not_true_eq_false, not_false_eq_true, true_implies, false_implies, implies_true, and_true, true_and, Nat.le_refl, true_or, or_true, eq_self, List.length_cons, List.length_nil, Nat.reduceAdd, Nat.reduceLT, Nat.reduceLeDiff]
    refine m_in32 (lo := 0) ?_
    have m1 : evP (S.1.getD q []) j ≤ ahL ((S.1.getD q []).take j) := by have q2 := mo.2.2; rw [if_pos rfl] at q2; exact q2
    have eW : (0 ≤ nI (evP (S.1.getD q []) j) ∧ nI (evP (S.1.getD q []) j) ≤ nI (ahL ((S.1.getD q []).take j)) - 1) ↔ evP (S.1.getD q []) j < ahL ((S.1.getD q []).take j) := by simp (disch := omega) only [z_nI, z_lit, z_neg, z_add, z_sub, z_mul, z_lt, z_le, z_eq, z_in, z_cl]; omega
    simp only [eW]
    by_cases cw : evP (S.1.getD q []) j < ahL ((S.1.getD q []).take j)
    case neg =>
      rw [if_neg cw]
      simp (disch := omega) only [↓EVi, ↓EVc, ↓ft_X7_push, ↓reduceIte, ↓EV_obs, ↓EV_obn, ↓EV_ais, ↓EV_ain, ↓EV_ob h0, ↓EV_ai a1', mdF, mRun, List.mem_cons, List.not_mem_nil, or_false, mtab_eq, Nat.reduceEqDiff, Nat.zero_add, hd1, ke, pk, b02, b12, b20, b01, b21, bn0, bn1, mset2, b10, b00, not_true_eq_false, not_false_eq_true, true_implies, false_implies, implies_true, and_true, true_and, Nat.le_refl, true_or, or_true, eq_self, List.length_cons, List.length_nil, Nat.reduceAdd, Nat.reduceLT, Nat.reduceLeDiff]
      refine none_ ?_
      unfold psP
      rw [if_pos he, if_neg (by decide), if_neg cw]
    have pl : psP (S.1.getD q []) 1 j = some (1, [(0, evP (S.1.getD q []) j + 1), (1, evP (S.1.getD q []) j), (1, evP (S.1.getD q []) j + 1)]) := by
      unfold psP
      rw [if_pos he, if_neg (by decide), if_pos cw]
    obtain ⟨gg, -, -, vi⟩ := po _ _ pl
    rw [if_pos cw]
    simp (disch := omega) only [↓EVi, ↓EVc, ↓ft_X7_push, ↓reduceIte, ↓EV_obs, ↓EV_obn, ↓EV_ais, ↓EV_ain, ↓EV_ob h0, ↓EV_ai a1', mdF, mRun, List.mem_cons, List.not_mem_nil, or_false, mtab_eq, Nat.reduceEqDiff, Nat.zero_add, hd1, ke, pk, b02, b12, b20, b01, b21, bn0, bn1, mset2, b10, b00, not_true_eq_false, not_false_eq_true, true_implies, false_implies, implies_true, and_true, true_and, Nat.le_refl, true_or, or_true, eq_self, List.length_cons, List.length_nil, Nat.reduceAdd, Nat.reduceLT, Nat.reduceLeDiff]
    rw [hcf, hs.1]
    have no : (30 < (S.1.getD q []).length + 2 ∨ 12 < crs (S.1.getD q []) + 2) → post (some (.int (-3))) h := by
      intro z
      rw [pl, aRepl_full (fun y => vi.mp y z)] at hp
      exact hp h hR0 mKeep_rfl
    refine ⟨vq, fun y => no (Or.inl (x30.mp y)), fun y => m_crossesOf hM hs hw.1 (by omega) ?_⟩
    simp (disch := omega) only [↓EVi, ↓EVc, ↓ft_X7_push, ↓reduceIte, ↓EV_obs, ↓EV_obn, ↓EV_ais, ↓EV_ain, ↓EV_ob h0, ↓EV_ai a1', mdF, mRun, List.mem_cons, List.not_mem_nil, or_false, mtab_eq, Nat.reduceEqDiff, Nat.zero_add, hd1, ke, pk, b02, b12, b20, b01, b21, bn0, bn1, mset2, b10, b00, not_true_eq_false, not_false_eq_true, true_implies, false_implies, implies_true, and_true, true_and, Nat.le_refl, true_or, or_true, eq_self, List.length_cons, List.length_nil, Nat.reduceAdd, Nat.reduceLT, Nat.reduceLeDiff]
    refine ⟨fun y2 => ?_, fun y2 => no (Or.inr (Classical.not_not.mp (fun z => y2 (x12.mpr z))))⟩
    have vv := vi.mpr (fun z => z.elim (fun z => y (x30.mpr z)) (x12.mp y2))
    rw [pl, aRepl_some vv] at hp
    refine n_zero (by omega) hI hM hL hq (by omega) (fun h1 v1 a1 hM1 hL1 hN1 hk1 => ?_)
    simp (disch := omega) only [↓EVi, ↓EVc, ↓ft_X7_push, ↓reduceIte, ↓EV_obs, ↓EV_obn, ↓EV_ais, ↓EV_ain, ↓EV_ob hM1.1, ↓EV_ai a1', mdF, mRun, List.mem_cons, List.not_mem_nil, or_false, mtab_eq, Nat.reduceEqDiff, Nat.zero_add, hd1, ke, pk, b02, b12, b20, b01, b21, bn0, bn1, mset2, b10, b00, not_true_eq_false, not_false_eq_true, true_implies, false_implies, implies_true, and_true, true_and, Nat.le_refl, true_or, or_true, eq_self, List.length_cons, List.length_nil, Nat.reduceAdd, Nat.reduceLT, Nat.reduceLeDiff]
    refine n_put (k := 0) (p := evP (S.1.getD q []) j + 1) hM1 hL1 hN1 (by simp only [List.length_append, List.length_take, List.length_cons, List.length_nil]; omega) rfl (by simp (disch := omega) only [z_nI, z_lit, z_neg, z_add, z_sub, z_mul, z_lt, z_le, z_eq, z_in, z_cl]; omega) (fun h2 v2 a2 hM2 hL2 hN2 hk2 => ?_)
    simp (disch := omega) only [↓EVi, ↓EVc, ↓ft_X7_push, ↓reduceIte, ↓EV_obs, ↓EV_obn, ↓EV_ais, ↓EV_ain, ↓EV_ob hM2.1, ↓EV_ai a1', mdF, mRun, List.mem_cons, List.not_mem_nil, or_false, mtab_eq, Nat.reduceEqDiff, Nat.zero_add, hd1, ke, pk, b02, b12, b20, b01, b21, bn0, bn1, mset2, b10, b00, not_true_eq_false, not_false_eq_true, true_implies, false_implies, implies_true, and_true, true_and, Nat.le_refl, true_or, or_true, eq_self, List.length_cons, List.length_nil, Nat.reduceAdd, Nat.reduceLT, Nat.reduceLeDiff]
    refine n_put (k := 1) (p := evP (S.1.getD q []) j) hM2 hL2 hN2 (by simp only [List.length_append, List.length_take, List.length_cons, List.length_nil]; omega) rfl (rfl) (fun h3 v3 a3 hM3 hL3 hN3 hk3 => ?_)
    simp (disch := omega) only [↓EVi, ↓EVc, ↓ft_X7_push, ↓reduceIte, ↓EV_obs, ↓EV_obn, ↓EV_ais, ↓EV_ain, ↓EV_ob hM3.1, ↓EV_ai a1', mdF, mRun, List.mem_cons, List.not_mem_nil, or_false, mtab_eq, Nat.reduceEqDiff, Nat.zero_add, hd1, ke, pk, b02, b12, b20, b01, b21, bn0, bn1, mset2, b10, b00, not_true_eq_false, not_false_eq_true, true_implies, false_implies, implies_true, and_true, true_and, Nat.le_refl, true_or, or_true, eq_self, List.length_cons, List.length_nil, Nat.reduceAdd, Nat.reduceLT, Nat.reduceLeDiff]
    refine n_put (k := 1) (p := evP (S.1.getD q []) j + 1) hM3 hL3 hN3 (by simp only [List.length_append, List.length_take, List.length_cons, List.length_nil]; omega) rfl (by simp (disch := omega) only [z_nI, z_lit, z_neg, z_add, z_sub, z_mul, z_lt, z_le, z_eq, z_in, z_cl]; omega) (fun h4 v4 a4 hM4 hL4 hN4 hk4 => ?_)
    simp (disch := omega) only [↓EVi, ↓EVc, ↓ft_X7_push, ↓reduceIte, ↓EV_obs, ↓EV_obn, ↓EV_ais, ↓EV_ain, ↓EV_ob hM4.1, ↓EV_ai a1', mdF, mRun, List.mem_cons, List.not_mem_nil, or_false, mtab_eq, Nat.reduceEqDiff, Nat.zero_add, hd1, ke, pk, b02, b12, b20, b01, b21, bn0, bn1, mset2, b10, b00, not_true_eq_false, not_false_eq_true, true_implies, false_implies, implies_true, and_true, true_and, Nat.le_refl, true_or, or_true, eq_self, List.length_cons, List.length_nil, Nat.reduceAdd, Nat.reduceLT, Nat.reduceLeDiff]
    refine n_rest (j := j + 1) (by omega) hI hM4 hL4 hN4 hq (nI_1 j) (by omega) ?_ (fun h9 hR9 hk9 => ?_)
    · have := (vld_bd vv).1
      simp only [repl, List.length_append, List.length_take, List.length_drop, List.length_cons, List.length_nil] at this ⊢
      omega
    simp (disch := omega) only [↓EVi, ↓EVc, ↓ft_X7_push, ↓reduceIte, ↓EV_obs, ↓EV_obn, ↓EV_ais, ↓EV_ain, mdF, mRun, List.mem_cons, List.not_mem_nil, or_false, mtab_eq, Nat.reduceEqDiff, Nat.zero_add, hd1, mset2, b10, b00, not_true_eq_false, not_false_eq_true, true_implies, false_implies, implies_true, and_true, true_and, Nat.le_refl, true_or, or_true, eq_self, List.length_cons, List.length_nil, Nat.reduceAdd, Nat.reduceLT, Nat.reduceLeDiff]
    have key := hp h9 (by simpa only [repl, List.append_assoc, List.cons_append, List.nil_append, List.append_nil] using hR9) (mKeep_trans (mKeep_trans (mKeep_trans (mKeep_trans hk1 hk2) hk3) hk4) hk9)
    simpa only [repl, List.append_assoc, List.cons_append, List.nil_append, List.append_nil] using key
  · have ke : kA (S.1.getD q []) j = 1 := by unfold kA; rw [if_pos hj, he]; rfl
    rw [he] at mo
    simp (disch := omega) only [↓EVi, ↓EVc, ↓ft_X7_push, ↓reduceIte, ↓EV_obs, ↓EV_obn, ↓EV_ais, ↓EV_ain, ↓EV_ob h0, ↓EV_ai a1', mdF, mRun, List.mem_cons, List.not_mem_nil, or_false, mtab_eq, Nat.reduceEqDiff, Nat.zero_add, hd1, ke, pk, b02, b12, b20, b01, b21, bn0, bn1, mset2, b10, b00, not_true_eq_false, not_false_eq_true, true_implies, false_implies, implies_true, and_true, true_and, Nat.le_refl, true_or, or_true, eq_self, List.length_cons, List.length_nil, Nat.reduceAdd, Nat.reduceLT, Nat.reduceLeDiff]
    refine c_numberAt hM hs (by omega) b.1 (by omega) ?_
    simp (disch := omega) only [↓EVi, ↓EVc, ↓ft_X7_push, ↓reduceIte, ↓EV_obs, ↓EV_obn, ↓EV_ais, ↓EV_ain, ↓EV_ob h0, ↓EV_ai a1', mdF, mRun, List.mem_cons, List.not_mem_nil, or_false, mtab_eq, Nat.reduceEqDiff, Nat.zero_add, hd1, ke, pk, b02, b12, b20, b01, b21, bn0, bn1, mset2, b10, b00, not_true_eq_false, not_false_eq_true, true_implies, false_implies, implies_true, and_true, true_and, Nat.le_refl, true_or, or_true, eq_self, List.length_cons, List.length_nil, Nat.reduceAdd, Nat.reduceLT, Nat.reduceLeDiff]
    refine none_ ?_
    unfold psP
    rw [if_neg (by omega), if_neg (by omega)]
  · have ke : kA (S.1.getD q []) j = 2 := by unfold kA; rw [if_pos hj, he]; rfl
    rw [he] at mo
    simp (disch := omega) only [↓EVi, ↓EVc, ↓ft_X7_push, ↓reduceIte, ↓EV_obs, ↓EV_obn, ↓EV_ais, ↓EV_ain, ↓EV_ob h0, ↓EV_ai a1', mdF, mRun, List.mem_cons, List.not_mem_nil, or_false, mtab_eq, Nat.reduceEqDiff, Nat.zero_add, hd1, ke, pk, b02, b12, b20, b01, b21, bn0, bn1, mset2, b10, b00, not_true_eq_false, not_false_eq_true, true_implies, false_implies, implies_true, and_true, true_and, Nat.le_refl, true_or, or_true, eq_self, List.length_cons, List.length_nil, Nat.reduceAdd, Nat.reduceLT, Nat.reduceLeDiff]
    refine c_numberAt hM hs (by omega) b.1 (by omega) ?_
    simp (disch := omega) only [↓EVi, ↓EVc, ↓ft_X7_push, ↓reduceIte, ↓EV_obs, ↓EV_obn, ↓EV_ais, ↓EV_ain, ↓EV_ob h0, ↓EV_ai a1', mdF, mRun, List.mem_cons, List.not_mem_nil, or_false, mtab_eq, Nat.reduceEqDiff, Nat.zero_add, hd1, ke, pk, b02, b12, b20, b01, b21, bn0, bn1, mset2, b10, b00, not_true_eq_false, not_false_eq_true, true_implies, false_implies, implies_true, and_true, true_and, Nat.le_refl, true_or, or_true, eq_self, List.length_cons, List.length_nil, Nat.reduceAdd, Nat.reduceLT, Nat.reduceLeDiff]
    refine m_ahead (by omega) hM hs hw.1 (by omega) (by omega) ?_
    simp (disch := omega) only [↓EVi, ↓EVc, ↓ft_X7_push, ↓reduceIte, ↓EV_obs, ↓EV_obn, ↓EV_ais, ↓EV_ain, ↓EV_ob h0, ↓EV_ai a1', mdF, mRun, List.mem_cons, List.not_mem_nil, or_false, mtab_eq, Nat.reduceEqDiff, Nat.zero_add, hd1, ke, pk, b02, b12, b20, b01, b21, bn0, bn1, mset2, b10, b00, not_true_eq_false, not_false_eq_true, true_implies, false_implies, implies_true, and_true, true_and, Nat.le_refl, true_or, or_true, eq_self, List.length_cons, List.length_nil, Nat.reduceAdd, Nat.reduceLT, Nat.reduceLeDiff]
    refine m_in32 (lo := 0) ?_
    have m1 : evP (S.1.getD q []) j + 2 ≤ ahL ((S.1.getD q []).take j) := by have q2 := mo.2.2; rw [if_neg (by decide)] at q2; exact q2
    have eW : (0 ≤ nI (evP (S.1.getD q []) j) + 2 ∧ nI (evP (S.1.getD q []) j) + 2 ≤ nI (ahL ((S.1.getD q []).take j)) - 1) ↔ evP (S.1.getD q []) j + 2 < ahL ((S.1.getD q []).take j) := by simp (disch := omega) only [z_nI, z_lit, z_neg, z_add, z_sub, z_mul, z_lt, z_le, z_eq, z_in, z_cl]; omega
    simp only [eW]
    by_cases cw : evP (S.1.getD q []) j + 2 < ahL ((S.1.getD q []).take j)
    case neg =>
      rw [if_neg cw]
      simp (disch := omega) only [↓EVi, ↓EVc, ↓ft_X7_push, ↓reduceIte, ↓EV_obs, ↓EV_obn, ↓EV_ais, ↓EV_ain, ↓EV_ob h0, ↓EV_ai a1', mdF, mRun, List.mem_cons, List.not_mem_nil, or_false, mtab_eq, Nat.reduceEqDiff, Nat.zero_add, hd1, ke, pk, b02, b12, b20, b01, b21, bn0, bn1, mset2, b10, b00, not_true_eq_false, not_false_eq_true, true_implies, false_implies, implies_true, and_true, true_and, Nat.le_refl, true_or, or_true, eq_self, List.length_cons, List.length_nil, Nat.reduceAdd, Nat.reduceLT, Nat.reduceLeDiff]
      refine none_ ?_
      unfold psP
      rw [if_neg (by omega), if_pos he, if_neg (by decide), if_neg cw]
    have pl : psP (S.1.getD q []) 1 j = some (1, [(1, evP (S.1.getD q []) j + 1), (1, evP (S.1.getD q []) j), (2, evP (S.1.getD q []) j + 1)]) := by
      unfold psP
      rw [if_neg (by omega), if_pos he, if_neg (by decide), if_pos cw]
    obtain ⟨gg, -, -, vi⟩ := po _ _ pl
    rw [if_pos cw]
    simp (disch := omega) only [↓EVi, ↓EVc, ↓ft_X7_push, ↓reduceIte, ↓EV_obs, ↓EV_obn, ↓EV_ais, ↓EV_ain, ↓EV_ob h0, ↓EV_ai a1', mdF, mRun, List.mem_cons, List.not_mem_nil, or_false, mtab_eq, Nat.reduceEqDiff, Nat.zero_add, hd1, ke, pk, b02, b12, b20, b01, b21, bn0, bn1, mset2, b10, b00, not_true_eq_false, not_false_eq_true, true_implies, false_implies, implies_true, and_true, true_and, Nat.le_refl, true_or, or_true, eq_self, List.length_cons, List.length_nil, Nat.reduceAdd, Nat.reduceLT, Nat.reduceLeDiff]
    rw [hcf, hs.1]
    have no : (30 < (S.1.getD q []).length + 2 ∨ 12 < crs (S.1.getD q []) + 2) → post (some (.int (-3))) h := by
      intro z
      rw [pl, aRepl_full (fun y => vi.mp y z)] at hp
      exact hp h hR0 mKeep_rfl
    refine ⟨vq, fun y => no (Or.inl (x30.mp y)), fun y => m_crossesOf hM hs hw.1 (by omega) ?_⟩
    simp (disch := omega) only [↓EVi, ↓EVc, ↓ft_X7_push, ↓reduceIte, ↓EV_obs, ↓EV_obn, ↓EV_ais, ↓EV_ain, ↓EV_ob h0, ↓EV_ai a1', mdF, mRun, List.mem_cons, List.not_mem_nil, or_false, mtab_eq, Nat.reduceEqDiff, Nat.zero_add, hd1, ke, pk, b02, b12, b20, b01, b21, bn0, bn1, mset2, b10, b00, not_true_eq_false, not_false_eq_true, true_implies, false_implies, implies_true, and_true, true_and, Nat.le_refl, true_or, or_true, eq_self, List.length_cons, List.length_nil, Nat.reduceAdd, Nat.reduceLT, Nat.reduceLeDiff]
    refine ⟨fun y2 => ?_, fun y2 => no (Or.inr (Classical.not_not.mp (fun z => y2 (x12.mpr z))))⟩
    have vv := vi.mpr (fun z => z.elim (fun z => y (x30.mpr z)) (x12.mp y2))
    rw [pl, aRepl_some vv] at hp
    refine n_zero (by omega) hI hM hL hq (by omega) (fun h1 v1 a1 hM1 hL1 hN1 hk1 => ?_)
    simp (disch := omega) only [↓EVi, ↓EVc, ↓ft_X7_push, ↓reduceIte, ↓EV_obs, ↓EV_obn, ↓EV_ais, ↓EV_ain, ↓EV_ob hM1.1, ↓EV_ai a1', mdF, mRun, List.mem_cons, List.not_mem_nil, or_false, mtab_eq, Nat.reduceEqDiff, Nat.zero_add, hd1, ke, pk, b02, b12, b20, b01, b21, bn0, bn1, mset2, b10, b00, not_true_eq_false, not_false_eq_true, true_implies, false_implies, implies_true, and_true, true_and, Nat.le_refl, true_or, or_true, eq_self, List.length_cons, List.length_nil, Nat.reduceAdd, Nat.reduceLT, Nat.reduceLeDiff]
    refine n_put (k := 1) (p := evP (S.1.getD q []) j + 1) hM1 hL1 hN1 (by simp only [List.length_append, List.length_take, List.length_cons, List.length_nil]; omega) rfl (by simp (disch := omega) only [z_nI, z_lit, z_neg, z_add, z_sub, z_mul, z_lt, z_le, z_eq, z_in, z_cl]; omega) (fun h2 v2 a2 hM2 hL2 hN2 hk2 => ?_)
    simp (disch := omega) only [↓EVi, ↓EVc, ↓ft_X7_push, ↓reduceIte, ↓EV_obs, ↓EV_obn, ↓EV_ais, ↓EV_ain, ↓EV_ob hM2.1, ↓EV_ai a1', mdF, mRun, List.mem_cons, List.not_mem_nil, or_false, mtab_eq, Nat.reduceEqDiff, Nat.zero_add, hd1, ke, pk, b02, b12, b20, b01, b21, bn0, bn1, mset2, b10, b00, not_true_eq_false, not_false_eq_true, true_implies, false_implies, implies_true, and_true, true_and, Nat.le_refl, true_or, or_true, eq_self, List.length_cons, List.length_nil, Nat.reduceAdd, Nat.reduceLT, Nat.reduceLeDiff]
    refine n_put (k := 1) (p := evP (S.1.getD q []) j) hM2 hL2 hN2 (by simp only [List.length_append, List.length_take, List.length_cons, List.length_nil]; omega) rfl (rfl) (fun h3 v3 a3 hM3 hL3 hN3 hk3 => ?_)
    simp (disch := omega) only [↓EVi, ↓EVc, ↓ft_X7_push, ↓reduceIte, ↓EV_obs, ↓EV_obn, ↓EV_ais, ↓EV_ain, ↓EV_ob hM3.1, ↓EV_ai a1', mdF, mRun, List.mem_cons, List.not_mem_nil, or_false, mtab_eq, Nat.reduceEqDiff, Nat.zero_add, hd1, ke, pk, b02, b12, b20, b01, b21, bn0, bn1, mset2, b10, b00, not_true_eq_false, not_false_eq_true, true_implies, false_implies, implies_true, and_true, true_and, Nat.le_refl, true_or, or_true, eq_self, List.length_cons, List.length_nil, Nat.reduceAdd, Nat.reduceLT, Nat.reduceLeDiff]
    refine n_put (k := 2) (p := evP (S.1.getD q []) j + 1) hM3 hL3 hN3 (by simp only [List.length_append, List.length_take, List.length_cons, List.length_nil]; omega) rfl (by simp (disch := omega) only [z_nI, z_lit, z_neg, z_add, z_sub, z_mul, z_lt, z_le, z_eq, z_in, z_cl]; omega) (fun h4 v4 a4 hM4 hL4 hN4 hk4 => ?_)
    simp (disch := omega) only [↓EVi, ↓EVc, ↓ft_X7_push, ↓reduceIte, ↓EV_obs, ↓EV_obn, ↓EV_ais, ↓EV_ain, ↓EV_ob hM4.1, ↓EV_ai a1', mdF, mRun, List.mem_cons, List.not_mem_nil, or_false, mtab_eq, Nat.reduceEqDiff, Nat.zero_add, hd1, ke, pk, b02, b12, b20, b01, b21, bn0, bn1, mset2, b10, b00, not_true_eq_false, not_false_eq_true, true_implies, false_implies, implies_true, and_true, true_and, Nat.le_refl, true_or, or_true, eq_self, List.length_cons, List.length_nil, Nat.reduceAdd, Nat.reduceLT, Nat.reduceLeDiff]
    refine n_rest (j := j + 1) (by omega) hI hM4 hL4 hN4 hq (nI_1 j) (by omega) ?_ (fun h9 hR9 hk9 => ?_)
    · have := (vld_bd vv).1
      simp only [repl, List.length_append, List.length_take, List.length_drop, List.length_cons, List.length_nil] at this ⊢
      omega
    simp (disch := omega) only [↓EVi, ↓EVc, ↓ft_X7_push, ↓reduceIte, ↓EV_obs, ↓EV_obn, ↓EV_ais, ↓EV_ain, mdF, mRun, List.mem_cons, List.not_mem_nil, or_false, mtab_eq, Nat.reduceEqDiff, Nat.zero_add, hd1, mset2, b10, b00, not_true_eq_false, not_false_eq_true, true_implies, false_implies, implies_true, and_true, true_and, Nat.le_refl, true_or, or_true, eq_self, List.length_cons, List.length_nil, Nat.reduceAdd, Nat.reduceLT, Nat.reduceLeDiff]
    have key := hp h9 (by simpa only [repl, List.append_assoc, List.cons_append, List.nil_append, List.append_nil] using hR9) (mKeep_trans (mKeep_trans (mKeep_trans (mKeep_trans hk1 hk2) hk3) hk4) hk9)
    simpa only [repl, List.append_assoc, List.cons_append, List.nil_append, List.append_nil] using key
set_option maxRecDepth 10000 in
theorem M_add {f k i m : Int32} (hd : 5 ≤ d) (hI : SInv S) (hR : MR h G M S) (hp : ∀ h', MR h' G M (aAdd f k i m S).2 → mKeep h h' M (M + 17) → post (some (.int (aAdd f k i m S).1)) h') : MC G MX7_add d 0 0 [.ref M, .int f, .int k, .int i, .int m] h N post := by
  have hR0 := hR
  have h8 := hI.1
  have hd1 : 1 ≤ d := by omega
  obtain ⟨v, a, hM, hL⟩ := hR
  have h0 := hM.1
  have a1' : h (M + 1) = some (.inl (gC G 0, 8, .inl (a 1))) := hM.2 1 (by decide) (by decide)
  refine MC.of (L0 := [some (.ref M), some (.int f), some (.int k), some (.int i), some (.int m), none, none]) gd_X7_add (Nat.le_of_ble_eq_true rfl) rfl (MW.run gd_X7_add [] 140 ?_)
  simp (disch := omega) only [↓EVi, ↓EVc, ↓ft_X7_add, ↓reduceIte, ↓EV_obs, ↓EV_obn, ↓EV_ais, ↓EV_ain, ↓EV_ob h0, ↓EV_ai a1', mdF, mRun, List.mem_cons, List.not_mem_nil, or_false, mtab_eq, Nat.reduceEqDiff, Nat.zero_add, hd1, mset2, b10, b00, not_true_eq_false, not_false_eq_true, true_implies, false_implies, implies_true, and_true, true_and, Nat.le_refl, true_or, or_true, eq_self, List.length_cons, List.length_nil, Nat.reduceAdd, Nat.reduceLT, Nat.reduceLeDiff]
  refine c_is (by omega) hI hM hL ?_
  unfold aAdd at hp
  rcases isF_c S f hI with c | ⟨q, hq, rfl, c, hfr⟩
  · rw [if_neg (fun z => c z.1)] at hp
    rw [if_neg c]
    simp (disch := omega) only [↓EVi, ↓EVc, ↓ft_X7_add, ↓reduceIte, ↓EV_obs, ↓EV_obn, ↓EV_ais, ↓EV_ain, ↓EV_ob h0, ↓EV_ai a1', mdF, mRun, List.mem_cons, List.not_mem_nil, or_false, mtab_eq, Nat.reduceEqDiff, Nat.zero_add, hd1, mset2, b10, b00, not_true_eq_false, not_false_eq_true, true_implies, false_implies, implies_true, and_true, true_and, Nat.le_refl, true_or, or_true, eq_self, List.length_cons, List.length_nil, Nat.reduceAdd, Nat.reduceLT, Nat.reduceLeDiff]
    exact hp h hR0 mKeep_rfl
  rw [if_pos c]
  simp (disch := omega) only [↓EVi, ↓EVc, ↓ft_X7_add, ↓reduceIte, ↓EV_obs, ↓EV_obn, ↓EV_ais, ↓EV_ain, ↓EV_ob h0, ↓EV_ai a1', mdF, mRun, List.mem_cons, List.not_mem_nil, or_false, mtab_eq, Nat.reduceEqDiff, Nat.zero_add, hd1, mset2, b10, b00, not_true_eq_false, not_false_eq_true, true_implies, false_implies, implies_true, and_true, true_and, Nat.le_refl, true_or, or_true, eq_self, List.length_cons, List.length_nil, Nat.reduceAdd, Nat.reduceLT, Nat.reduceLeDiff]
  refine m_in32 (lo := 0) (hi := 3) ?_
  by_cases c2 : 0 ≤ k ∧ k ≤ 3
  case neg =>
    rw [if_neg c2]
    rw [if_neg (fun z => c2 z.2.1)] at hp
    simp (disch := omega) only [↓EVi, ↓EVc, ↓ft_X7_add, ↓reduceIte, ↓EV_obs, ↓EV_obn, ↓EV_ais, ↓EV_ain, ↓EV_ob h0, ↓EV_ai a1', mdF, mRun, List.mem_cons, List.not_mem_nil, or_false, mtab_eq, Nat.reduceEqDiff, Nat.zero_add, hd1, mset2, b10, b00, not_true_eq_false, not_false_eq_true, true_implies, false_implies, implies_true, and_true, true_and, Nat.le_refl, true_or, or_true, eq_self, List.length_cons, List.length_nil, Nat.reduceAdd, Nat.reduceLT, Nat.reduceLeDiff]
    exact hp h hR0 mKeep_rfl
  rw [if_pos c2]
  simp (disch := omega) only [↓EVi, ↓EVc, ↓ft_X7_add, ↓reduceIte, ↓EV_obs, ↓EV_obn, ↓EV_ais, ↓EV_ain, ↓EV_ob h0, ↓EV_ai a1', mdF, mRun, List.mem_cons, List.not_mem_nil, or_false, mtab_eq, Nat.reduceEqDiff, Nat.zero_add, hd1, mset2, b10, b00, not_true_eq_false, not_false_eq_true, true_implies, false_implies, implies_true, and_true, true_and, Nat.le_refl, true_or, or_true, eq_self, List.length_cons, List.length_nil, Nat.reduceAdd, Nat.reduceLT, Nat.reduceLeDiff]
  have hw := hI.2.1 q hq
  have hs := hL.2.1 q hq
  have b := vld_bd hw.1
  have hcf : (nI q).toNatClampNeg = q := nI_clamp (by omega)
  have vq : vp_in (nI q) 8 := vp_in_nI (by omega) (by decide)
  rw [hcf, hs.1]
  refine ⟨vq, m_in32 (lo := 0) ?_⟩
  rw [hfr] at hp
  by_cases c3 : 0 ≤ i ∧ i ≤ nI (S.1.getD q []).length
  case neg =>
    rw [if_neg c3]
    rw [if_neg (fun z => c3 z.2.2.1)] at hp
    simp (disch := omega) only [↓EVi, ↓EVc, ↓ft_X7_add, ↓reduceIte, ↓EV_obs, ↓EV_obn, ↓EV_ais, ↓EV_ain, ↓EV_ob h0, ↓EV_ai a1', mdF, mRun, List.mem_cons, List.not_mem_nil, or_false, mtab_eq, Nat.reduceEqDiff, Nat.zero_add, hd1, mset2, b10, b00, not_true_eq_false, not_false_eq_true, true_implies, false_implies, implies_true, and_true, true_and, Nat.le_refl, true_or, or_true, eq_self, List.length_cons, List.length_nil, Nat.reduceAdd, Nat.reduceLT, Nat.reduceLeDiff]
    exact hp h hR0 mKeep_rfl
  rw [if_pos c3]
  simp (disch := omega) only [↓EVi, ↓EVc, ↓ft_X7_add, ↓reduceIte, ↓EV_obs, ↓EV_obn, ↓EV_ais, ↓EV_ain, ↓EV_ob h0, ↓EV_ai a1', mdF, mRun, List.mem_cons, List.not_mem_nil, or_false, mtab_eq, Nat.reduceEqDiff, Nat.zero_add, hd1, mset2, b10, b00, not_true_eq_false, not_false_eq_true, true_implies, false_implies, implies_true, and_true, true_and, Nat.le_refl, true_or, or_true, eq_self, List.length_cons, List.length_nil, Nat.reduceAdd, Nat.reduceLT, Nat.reduceLeDiff]
  obtain ⟨j, hj, rfl⟩ := arg_le i _ (by omega) c3
  obtain ⟨r, hr, rfl⟩ := arg_le k 3 (by decide) c2
  rw [nI_clamp (n := q) (by omega), nI_clamp (n := j) (by omega), nI_clamp (n := r) (by omega)] at hp
  have hA := (vld_le hw.1 j hj).2.1
  refine m_ahead (by omega) hM hs hw.1 (by omega) hj ?_
  simp (disch := omega) only [↓EVi, ↓EVc, ↓ft_X7_add, ↓reduceIte, ↓EV_obs, ↓EV_obn, ↓EV_ais, ↓EV_ain, ↓EV_ob h0, ↓EV_ai a1', mdF, mRun, List.mem_cons, List.not_mem_nil, or_false, mtab_eq, Nat.reduceEqDiff, Nat.zero_add, hd1, mset2, b10, b00, not_true_eq_false, not_false_eq_true, true_implies, false_implies, implies_true, and_true, true_and, Nat.le_refl, true_or, or_true, eq_self, List.length_cons, List.length_nil, Nat.reduceAdd, Nat.reduceLT, Nat.reduceLeDiff]
  refine m_in32 (lo := 0) ?_
  simp (disch := omega) only [le_pred]
  by_cases c4 : 0 ≤ m ∧ m < nI (ahL ((S.1.getD q []).take j))
  case neg =>
    rw [if_neg c4]
    rw [if_neg (fun z => c4 z.2.2.2)] at hp
    simp (disch := omega) only [↓EVi, ↓EVc, ↓ft_X7_add, ↓reduceIte, ↓EV_obs, ↓EV_obn, ↓EV_ais, ↓EV_ain, ↓EV_ob h0, ↓EV_ai a1', mdF, mRun, List.mem_cons, List.not_mem_nil, or_false, mtab_eq, Nat.reduceEqDiff, Nat.zero_add, hd1, mset2, b10, b00, not_true_eq_false, not_false_eq_true, true_implies, false_implies, implies_true, and_true, true_and, Nat.le_refl, true_or, or_true, eq_self, List.length_cons, List.length_nil, Nat.reduceAdd, Nat.reduceLT, Nat.reduceLeDiff]
    exact hp h hR0 mKeep_rfl
  rw [if_pos c4]
  rw [if_pos ⟨c, c2, c3, c4⟩] at hp
  obtain ⟨t, ht, rfl⟩ := (arg_ix m (n := ahL ((S.1.getD q []).take j)) (by omega)).resolve_left (fun z => z c4)
  rw [nI_clamp (n := t) (by omega)] at hp
  obtain ⟨gg, vi⟩ := add_ok hw.1 (kind := r) hj ht
  have no : (30 < (S.1.getD q []).length + (if r < 2 then 3 else 2) ∨ (r < 2 ∧ crs (S.1.getD q []) = 12) ∨ 10 < ahL ((S.1.getD q []).take j) + 2) → post (some (.int (-3))) h := by
    intro z
    rw [aRepl_full (fun y => vi.mp y z)] at hp
    exact hp h hR0 mKeep_rfl
  have x10 : (nI (ahL ((S.1.getD q []).take j)) + 2 ≤ 10) ↔ ¬ 10 < ahL ((S.1.getD q []).take j) + 2 := by simp (disch := omega) only [z_nI, z_lit, z_neg, z_add, z_sub, z_mul, z_lt, z_le, z_eq, z_in, z_cl]; omega
  have x12 : (nI (crs (S.1.getD q [])) = 12) ↔ crs (S.1.getD q []) = 12 := nI_eq (b := 12) (by omega) (by omega)
  rcases (by omega : r = 0 ∨ r = 1 ∨ r = 2 ∨ r = 3) with rfl | rfl | rfl | rfl
  · have g0 : (nI 0 = (0 : Int32)) = True := eq_true rfl
    have g2 : (nI 0 = (2 : Int32)) = False := eq_false (by decide)
    have gl : ((2 : Int32) ≤ nI 0) = False := eq_false (by decide)
    simp (disch := omega) only [↓EVi, ↓EVc, ↓ft_X7_add, ↓reduceIte, ↓EV_obs, ↓EV_obn, ↓EV_ais, ↓EV_ain, ↓EV_ob h0, ↓EV_ai a1', mdF, mRun, List.mem_cons, List.not_mem_nil, or_false, mtab_eq, Nat.reduceEqDiff, Nat.zero_add, hd1, g0, g2, gl, mset2, b10, b00, not_true_eq_false, not_false_eq_true, true_implies, false_implies, implies_true, and_true, true_and, Nat.le_refl, true_or, or_true, eq_self, List.length_cons, List.length_nil, Nat.reduceAdd, Nat.reduceLT, Nat.reduceLeDiff]
    rw [hcf, hs.1]
    have x30 : (30 < nI (S.1.getD q []).length + 3) ↔ 30 < (S.1.getD q []).length + 3 := by simp (disch := omega) only [z_nI, z_lit, z_neg, z_add, z_sub, z_mul, z_lt, z_le, z_eq, z_in, z_cl]; omega
    simp only [show ((0 : Nat) < 2) = True from eq_true (by decide), ↓reduceIte, true_and] at no vi
    refine ⟨vq, fun y => no (Or.inl (x30.mp y)), fun y => m_crossesOf hM hs hw.1 (by omega) ?_⟩
    simp (disch := omega) only [↓EVi, ↓EVc, ↓ft_X7_add, ↓reduceIte, ↓EV_obs, ↓EV_obn, ↓EV_ais, ↓EV_ain, ↓EV_ob h0, ↓EV_ai a1', mdF, mRun, List.mem_cons, List.not_mem_nil, or_false, mtab_eq, Nat.reduceEqDiff, Nat.zero_add, hd1, g0, g2, gl, mset2, b10, b00, not_true_eq_false, not_false_eq_true, true_implies, false_implies, implies_true, and_true, true_and, Nat.le_refl, true_or, or_true, eq_self, List.length_cons, List.length_nil, Nat.reduceAdd, Nat.reduceLT, Nat.reduceLeDiff]
    refine ⟨fun y1 => no (Or.inr (Or.inl (x12.mp y1))), fun y1 => m_ahead (by omega) hM hs hw.1 (by omega) hj ?_⟩
    simp (disch := omega) only [↓EVi, ↓EVc, ↓ft_X7_add, ↓reduceIte, ↓EV_obs, ↓EV_obn, ↓EV_ais, ↓EV_ain, ↓EV_ob h0, ↓EV_ai a1', mdF, mRun, List.mem_cons, List.not_mem_nil, or_false, mtab_eq, Nat.reduceEqDiff, Nat.zero_add, hd1, g0, g2, gl, mset2, b10, b00, not_true_eq_false, not_false_eq_true, true_implies, false_implies, implies_true, and_true, true_and, Nat.le_refl, true_or, or_true, eq_self, List.length_cons, List.length_nil, Nat.reduceAdd, Nat.reduceLT, Nat.reduceLeDiff]
    refine ⟨fun y2 => ?_, fun y2 => no (Or.inr (Or.inr (Classical.not_not.mp (fun z => y2 (x10.mpr z)))))⟩
    have vv := vi.mpr (fun z => z.elim (fun z => y (x30.mpr z)) (fun z => z.elim (fun z => y1 (x12.mpr z)) (x10.mp y2)))
    rw [aRepl_some vv] at hp
    refine n_zero (by omega) hI hM hL hq (by omega) (fun h1 v1 a1 hM1 hL1 hN1 hk1 => ?_)
    simp (disch := omega) only [↓EVi, ↓EVc, ↓ft_X7_add, ↓reduceIte, ↓EV_obs, ↓EV_obn, ↓EV_ais, ↓EV_ain, ↓EV_ob hM1.1, ↓EV_ai a1', mdF, mRun, List.mem_cons, List.not_mem_nil, or_false, mtab_eq, Nat.reduceEqDiff, Nat.zero_add, hd1, g0, g2, gl, mset2, b10, b00, not_true_eq_false, not_false_eq_true, true_implies, false_implies, implies_true, and_true, true_and, Nat.le_refl, true_or, or_true, eq_self, List.length_cons, List.length_nil, Nat.reduceAdd, Nat.reduceLT, Nat.reduceLeDiff]
    refine n_put (k := 0) (p := t + 1) hM1 hL1 hN1 (by simp only [List.length_append, List.length_take, List.length_cons, List.length_nil]; omega) rfl (nI_1 t) (fun h2 v2 a2 hM2 hL2 hN2 hk2 => ?_)
    simp (disch := omega) only [↓EVi, ↓EVc, ↓ft_X7_add, ↓reduceIte, ↓EV_obs, ↓EV_obn, ↓EV_ais, ↓EV_ain, ↓EV_ob hM2.1, ↓EV_ai a1', mdF, mRun, List.mem_cons, List.not_mem_nil, or_false, mtab_eq, Nat.reduceEqDiff, Nat.zero_add, hd1, g0, g2, gl, mset2, b10, b00, not_true_eq_false, not_false_eq_true, true_implies, false_implies, implies_true, and_true, true_and, Nat.le_refl, true_or, or_true, eq_self, List.length_cons, List.length_nil, Nat.reduceAdd, Nat.reduceLT, Nat.reduceLeDiff]
    refine n_put (k := 1) (p := t) hM2 hL2 hN2 (by simp only [List.length_append, List.length_take, List.length_cons, List.length_nil]; omega) rfl (rfl) (fun h3 v3 a3 hM3 hL3 hN3 hk3 => ?_)
    simp (disch := omega) only [↓EVi, ↓EVc, ↓ft_X7_add, ↓reduceIte, ↓EV_obs, ↓EV_obn, ↓EV_ais, ↓EV_ain, ↓EV_ob hM3.1, ↓EV_ai a1', mdF, mRun, List.mem_cons, List.not_mem_nil, or_false, mtab_eq, Nat.reduceEqDiff, Nat.zero_add, hd1, g0, g2, gl, mset2, b10, b00, not_true_eq_false, not_false_eq_true, true_implies, false_implies, implies_true, and_true, true_and, Nat.le_refl, true_or, or_true, eq_self, List.length_cons, List.length_nil, Nat.reduceAdd, Nat.reduceLT, Nat.reduceLeDiff]
    refine n_put (k := 2) (p := t + 1) hM3 hL3 hN3 (by simp only [List.length_append, List.length_take, List.length_cons, List.length_nil]; omega) rfl (nI_1 t) (fun h4 v4 a4 hM4 hL4 hN4 hk4 => ?_)
    simp (disch := omega) only [↓EVi, ↓EVc, ↓ft_X7_add, ↓reduceIte, ↓EV_obs, ↓EV_obn, ↓EV_ais, ↓EV_ain, ↓EV_ob hM4.1, ↓EV_ai a1', mdF, mRun, List.mem_cons, List.not_mem_nil, or_false, mtab_eq, Nat.reduceEqDiff, Nat.zero_add, hd1, g0, g2, gl, mset2, b10, b00, not_true_eq_false, not_false_eq_true, true_implies, false_implies, implies_true, and_true, true_and, Nat.le_refl, true_or, or_true, eq_self, List.length_cons, List.length_nil, Nat.reduceAdd, Nat.reduceLT, Nat.reduceLeDiff]
    refine n_rest (j := j + 0) (by omega) hI hM4 hL4 hN4 hq rfl (by omega) ?_ (fun h9 hR9 hk9 => ?_)
    · have := (vld_bd vv).1
      simp only [repl, adP, List.length_append, List.length_take, List.length_drop] at this ⊢
      simp at this ⊢
      omega
    simp (disch := omega) only [↓EVi, ↓EVc, ↓ft_X7_add, ↓reduceIte, ↓EV_obs, ↓EV_obn, ↓EV_ais, ↓EV_ain, mdF, mRun, List.mem_cons, List.not_mem_nil, or_false, mtab_eq, Nat.reduceEqDiff, Nat.zero_add, hd1, mset2, b10, b00, not_true_eq_false, not_false_eq_true, true_implies, false_implies, implies_true, and_true, true_and, Nat.le_refl, true_or, or_true, eq_self, List.length_cons, List.length_nil, Nat.reduceAdd, Nat.reduceLT, Nat.reduceLeDiff]
    have ea : adP 0 t = [(0, t + 1), (1, t), (2, t + 1)] := rfl
    rw [ea] at hp
    have key := hp h9 (by simpa only [repl, List.append_assoc, List.cons_append, List.nil_append, List.append_nil] using hR9) (mKeep_trans (mKeep_trans (mKeep_trans (mKeep_trans hk1 hk2) hk3) hk4) hk9)
    simpa only [repl, List.append_assoc, List.cons_append, List.nil_append, List.append_nil] using key
  · have g0 : (nI 1 = (0 : Int32)) = False := eq_false (by decide)
    have g2 : (nI 1 = (2 : Int32)) = False := eq_false (by decide)
    have gl : ((2 : Int32) ≤ nI 1) = False := eq_false (by decide)
    simp (disch := omega) only [↓EVi, ↓EVc, ↓ft_X7_add, ↓reduceIte, ↓EV_obs, ↓EV_obn, ↓EV_ais, ↓EV_ain, ↓EV_ob h0, ↓EV_ai a1', mdF, mRun, List.mem_cons, List.not_mem_nil, or_false, mtab_eq, Nat.reduceEqDiff, Nat.zero_add, hd1, g0, g2, gl, mset2, b10, b00, not_true_eq_false, not_false_eq_true, true_implies, false_implies, implies_true, and_true, true_and, Nat.le_refl, true_or, or_true, eq_self, List.length_cons, List.length_nil, Nat.reduceAdd, Nat.reduceLT, Nat.reduceLeDiff]
    rw [hcf, hs.1]
    have x30 : (30 < nI (S.1.getD q []).length + 3) ↔ 30 < (S.1.getD q []).length + 3 := by simp (disch := omega) only [z_nI, z_lit, z_neg, z_add, z_sub, z_mul, z_lt, z_le, z_eq, z_in, z_cl]; omega
    simp only [show ((1 : Nat) < 2) = True from eq_true (by decide), ↓reduceIte, true_and] at no vi
    refine ⟨vq, fun y => no (Or.inl (x30.mp y)), fun y => m_crossesOf hM hs hw.1 (by omega) ?_⟩
    simp (disch := omega) only [↓EVi, ↓EVc, ↓ft_X7_add, ↓reduceIte, ↓EV_obs, ↓EV_obn, ↓EV_ais, ↓EV_ain, ↓EV_ob h0, ↓EV_ai a1', mdF, mRun, List.mem_cons, List.not_mem_nil, or_false, mtab_eq, Nat.reduceEqDiff, Nat.zero_add, hd1, g0, g2, gl, mset2, b10, b00, not_true_eq_false, not_false_eq_true, true_implies, false_implies, implies_true, and_true, true_and, Nat.le_refl, true_or, or_true, eq_self, List.length_cons, List.length_nil, Nat.reduceAdd, Nat.reduceLT, Nat.reduceLeDiff]
    refine ⟨fun y1 => no (Or.inr (Or.inl (x12.mp y1))), fun y1 => m_ahead (by omega) hM hs hw.1 (by omega) hj ?_⟩
    simp (disch := omega) only [↓EVi, ↓EVc, ↓ft_X7_add, ↓reduceIte, ↓EV_obs, ↓EV_obn, ↓EV_ais, ↓EV_ain, ↓EV_ob h0, ↓EV_ai a1', mdF, mRun, List.mem_cons, List.not_mem_nil, or_false, mtab_eq, Nat.reduceEqDiff, Nat.zero_add, hd1, g0, g2, gl, mset2, b10, b00, not_true_eq_false, not_false_eq_true, true_implies, false_implies, implies_true, and_true, true_and, Nat.le_refl, true_or, or_true, eq_self, List.length_cons, List.length_nil, Nat.reduceAdd, Nat.reduceLT, Nat.reduceLeDiff]
    refine ⟨fun y2 => ?_, fun y2 => no (Or.inr (Or.inr (Classical.not_not.mp (fun z => y2 (x10.mpr z)))))⟩
    have vv := vi.mpr (fun z => z.elim (fun z => y (x30.mpr z)) (fun z => z.elim (fun z => y1 (x12.mpr z)) (x10.mp y2)))
    rw [aRepl_some vv] at hp
    refine n_zero (by omega) hI hM hL hq (by omega) (fun h1 v1 a1 hM1 hL1 hN1 hk1 => ?_)
    simp (disch := omega) only [↓EVi, ↓EVc, ↓ft_X7_add, ↓reduceIte, ↓EV_obs, ↓EV_obn, ↓EV_ais, ↓EV_ain, ↓EV_ob hM1.1, ↓EV_ai a1', mdF, mRun, List.mem_cons, List.not_mem_nil, or_false, mtab_eq, Nat.reduceEqDiff, Nat.zero_add, hd1, g0, g2, gl, mset2, b10, b00, not_true_eq_false, not_false_eq_true, true_implies, false_implies, implies_true, and_true, true_and, Nat.le_refl, true_or, or_true, eq_self, List.length_cons, List.length_nil, Nat.reduceAdd, Nat.reduceLT, Nat.reduceLeDiff]
    refine n_put (k := 0) (p := t) hM1 hL1 hN1 (by simp only [List.length_append, List.length_take, List.length_cons, List.length_nil]; omega) rfl (rfl) (fun h2 v2 a2 hM2 hL2 hN2 hk2 => ?_)
    simp (disch := omega) only [↓EVi, ↓EVc, ↓ft_X7_add, ↓reduceIte, ↓EV_obs, ↓EV_obn, ↓EV_ais, ↓EV_ain, ↓EV_ob hM2.1, ↓EV_ai a1', mdF, mRun, List.mem_cons, List.not_mem_nil, or_false, mtab_eq, Nat.reduceEqDiff, Nat.zero_add, hd1, g0, g2, gl, mset2, b10, b00, not_true_eq_false, not_false_eq_true, true_implies, false_implies, implies_true, and_true, true_and, Nat.le_refl, true_or, or_true, eq_self, List.length_cons, List.length_nil, Nat.reduceAdd, Nat.reduceLT, Nat.reduceLeDiff]
    refine n_put (k := 1) (p := t + 1) hM2 hL2 hN2 (by simp only [List.length_append, List.length_take, List.length_cons, List.length_nil]; omega) rfl (nI_1 t) (fun h3 v3 a3 hM3 hL3 hN3 hk3 => ?_)
    simp (disch := omega) only [↓EVi, ↓EVc, ↓ft_X7_add, ↓reduceIte, ↓EV_obs, ↓EV_obn, ↓EV_ais, ↓EV_ain, ↓EV_ob hM3.1, ↓EV_ai a1', mdF, mRun, List.mem_cons, List.not_mem_nil, or_false, mtab_eq, Nat.reduceEqDiff, Nat.zero_add, hd1, g0, g2, gl, mset2, b10, b00, not_true_eq_false, not_false_eq_true, true_implies, false_implies, implies_true, and_true, true_and, Nat.le_refl, true_or, or_true, eq_self, List.length_cons, List.length_nil, Nat.reduceAdd, Nat.reduceLT, Nat.reduceLeDiff]
    refine n_put (k := 2) (p := t) hM3 hL3 hN3 (by simp only [List.length_append, List.length_take, List.length_cons, List.length_nil]; omega) rfl (rfl) (fun h4 v4 a4 hM4 hL4 hN4 hk4 => ?_)
    simp (disch := omega) only [↓EVi, ↓EVc, ↓ft_X7_add, ↓reduceIte, ↓EV_obs, ↓EV_obn, ↓EV_ais, ↓EV_ain, ↓EV_ob hM4.1, ↓EV_ai a1', mdF, mRun, List.mem_cons, List.not_mem_nil, or_false, mtab_eq, Nat.reduceEqDiff, Nat.zero_add, hd1, g0, g2, gl, mset2, b10, b00, not_true_eq_false, not_false_eq_true, true_implies, false_implies, implies_true, and_true, true_and, Nat.le_refl, true_or, or_true, eq_self, List.length_cons, List.length_nil, Nat.reduceAdd, Nat.reduceLT, Nat.reduceLeDiff]
    refine n_rest (j := j + 0) (by omega) hI hM4 hL4 hN4 hq rfl (by omega) ?_ (fun h9 hR9 hk9 => ?_)
    · have := (vld_bd vv).1
      simp only [repl, adP, List.length_append, List.length_take, List.length_drop] at this ⊢
      simp at this ⊢
      omega
    simp (disch := omega) only [↓EVi, ↓EVc, ↓ft_X7_add, ↓reduceIte, ↓EV_obs, ↓EV_obn, ↓EV_ais, ↓EV_ain, mdF, mRun, List.mem_cons, List.not_mem_nil, or_false, mtab_eq, Nat.reduceEqDiff, Nat.zero_add, hd1, mset2, b10, b00, not_true_eq_false, not_false_eq_true, true_implies, false_implies, implies_true, and_true, true_and, Nat.le_refl, true_or, or_true, eq_self, List.length_cons, List.length_nil, Nat.reduceAdd, Nat.reduceLT, Nat.reduceLeDiff]
    have ea : adP 1 t = [(0, t), (1, t + 1), (2, t)] := rfl
    rw [ea] at hp
    have key := hp h9 (by simpa only [repl, List.append_assoc, List.cons_append, List.nil_append, List.append_nil] using hR9) (mKeep_trans (mKeep_trans (mKeep_trans (mKeep_trans hk1 hk2) hk3) hk4) hk9)
    simpa only [repl, List.append_assoc, List.cons_append, List.nil_append, List.append_nil] using key
  · have g0 : (nI 2 = (0 : Int32)) = False := eq_false (by decide)
    have g2 : (nI 2 = (2 : Int32)) = True := eq_true rfl
    have gl : ((2 : Int32) ≤ nI 2) = True := eq_true (by decide)
    simp (disch := omega) only [↓EVi, ↓EVc, ↓ft_X7_add, ↓reduceIte, ↓EV_obs, ↓EV_obn, ↓EV_ais, ↓EV_ain, ↓EV_ob h0, ↓EV_ai a1', mdF, mRun, List.mem_cons, List.not_mem_nil, or_false, mtab_eq, Nat.reduceEqDiff, Nat.zero_add, hd1, g0, g2, gl, mset2, b10, b00, not_true_eq_false, not_false_eq_true, true_implies, false_implies, implies_true, and_true, true_and, Nat.le_refl, true_or, or_true, eq_self, List.length_cons, List.length_nil, Nat.reduceAdd, Nat.reduceLT, Nat.reduceLeDiff]
    rw [hcf, hs.1]
    have x30 : (30 < nI (S.1.getD q []).length + 2) ↔ 30 < (S.1.getD q []).length + 2 := by simp (disch := omega) only [z_nI, z_lit, z_neg, z_add, z_sub, z_mul, z_lt, z_le, z_eq, z_in, z_cl]; omega
    simp only [show ((2 : Nat) < 2) = False from eq_false (by decide), ↓reduceIte, false_and, false_or] at no vi
    refine ⟨vq, fun y => no (Or.inl (x30.mp y)), fun y => m_ahead (by omega) hM hs hw.1 (by omega) hj ?_⟩
    simp (disch := omega) only [↓EVi, ↓EVc, ↓ft_X7_add, ↓reduceIte, ↓EV_obs, ↓EV_obn, ↓EV_ais, ↓EV_ain, ↓EV_ob h0, ↓EV_ai a1', mdF, mRun, List.mem_cons, List.not_mem_nil, or_false, mtab_eq, Nat.reduceEqDiff, Nat.zero_add, hd1, g0, g2, gl, mset2, b10, b00, not_true_eq_false, not_false_eq_true, true_implies, false_implies, implies_true, and_true, true_and, Nat.le_refl, true_or, or_true, eq_self, List.length_cons, List.length_nil, Nat.reduceAdd, Nat.reduceLT, Nat.reduceLeDiff]
    refine ⟨fun y2 => ?_, fun y2 => no (Or.inr (Classical.not_not.mp (fun z => y2 (x10.mpr z))))⟩
    have vv := vi.mpr (fun z => z.elim (fun z => y (x30.mpr z)) (x10.mp y2))
    rw [aRepl_some vv] at hp
    refine n_zero (by omega) hI hM hL hq (by omega) (fun h1 v1 a1 hM1 hL1 hN1 hk1 => ?_)
    simp (disch := omega) only [↓EVi, ↓EVc, ↓ft_X7_add, ↓reduceIte, ↓EV_obs, ↓EV_obn, ↓EV_ais, ↓EV_ain, ↓EV_ob hM1.1, ↓EV_ai a1', mdF, mRun, List.mem_cons, List.not_mem_nil, or_false, mtab_eq, Nat.reduceEqDiff, Nat.zero_add, hd1, g0, g2, gl, mset2, b10, b00, not_true_eq_false, not_false_eq_true, true_implies, false_implies, implies_true, and_true, true_and, Nat.le_refl, true_or, or_true, eq_self, List.length_cons, List.length_nil, Nat.reduceAdd, Nat.reduceLT, Nat.reduceLeDiff]
    refine n_put (k := 0) (p := t + 1) hM1 hL1 hN1 (by simp only [List.length_append, List.length_take, List.length_cons, List.length_nil]; omega) rfl (nI_1 t) (fun h2 v2 a2 hM2 hL2 hN2 hk2 => ?_)
    simp (disch := omega) only [↓EVi, ↓EVc, ↓ft_X7_add, ↓reduceIte, ↓EV_obs, ↓EV_obn, ↓EV_ais, ↓EV_ain, ↓EV_ob hM2.1, ↓EV_ai a1', mdF, mRun, List.mem_cons, List.not_mem_nil, or_false, mtab_eq, Nat.reduceEqDiff, Nat.zero_add, hd1, g0, g2, gl, mset2, b10, b00, not_true_eq_false, not_false_eq_true, true_implies, false_implies, implies_true, and_true, true_and, Nat.le_refl, true_or, or_true, eq_self, List.length_cons, List.length_nil, Nat.reduceAdd, Nat.reduceLT, Nat.reduceLeDiff]
    refine n_put (k := 2) (p := t) hM2 hL2 hN2 (by simp only [List.length_append, List.length_take, List.length_cons, List.length_nil]; omega) rfl (rfl) (fun h3 v3 a3 hM3 hL3 hN3 hk3 => ?_)
    simp (disch := omega) only [↓EVi, ↓EVc, ↓ft_X7_add, ↓reduceIte, ↓EV_obs, ↓EV_obn, ↓EV_ais, ↓EV_ain, ↓EV_ob hM3.1, ↓EV_ai a1', mdF, mRun, List.mem_cons, List.not_mem_nil, or_false, mtab_eq, Nat.reduceEqDiff, Nat.zero_add, hd1, g0, g2, gl, mset2, b10, b00, not_true_eq_false, not_false_eq_true, true_implies, false_implies, implies_true, and_true, true_and, Nat.le_refl, true_or, or_true, eq_self, List.length_cons, List.length_nil, Nat.reduceAdd, Nat.reduceLT, Nat.reduceLeDiff]
    refine n_rest (j := j + 0) (by omega) hI hM3 hL3 hN3 hq rfl (by omega) ?_ (fun h9 hR9 hk9 => ?_)
    · have := (vld_bd vv).1
      simp only [repl, adP, List.length_append, List.length_take, List.length_drop] at this ⊢
      simp at this ⊢
      omega
    simp (disch := omega) only [↓EVi, ↓EVc, ↓ft_X7_add, ↓reduceIte, ↓EV_obs, ↓EV_obn, ↓EV_ais, ↓EV_ain, mdF, mRun, List.mem_cons, List.not_mem_nil, or_false, mtab_eq, Nat.reduceEqDiff, Nat.zero_add, hd1, mset2, b10, b00, not_true_eq_false, not_false_eq_true, true_implies, false_implies, implies_true, and_true, true_and, Nat.le_refl, true_or, or_true, eq_self, List.length_cons, List.length_nil, Nat.reduceAdd, Nat.reduceLT, Nat.reduceLeDiff]
    have ea : adP 2 t = [(0, t + 1), (2, t)] := rfl
    rw [ea] at hp
    have key := hp h9 (by simpa only [repl, List.append_assoc, List.cons_append, List.nil_append, List.append_nil] using hR9) (mKeep_trans (mKeep_trans (mKeep_trans hk1 hk2) hk3) hk9)
    simpa only [repl, List.append_assoc, List.cons_append, List.nil_append, List.append_nil] using key
  · have g0 : (nI 3 = (0 : Int32)) = False := eq_false (by decide)
    have g2 : (nI 3 = (2 : Int32)) = False := eq_false (by decide)
    have gl : ((2 : Int32) ≤ nI 3) = True := eq_true (by decide)
    simp (disch := omega) only [↓EVi, ↓EVc, ↓ft_X7_add, ↓reduceIte, ↓EV_obs, ↓EV_obn, ↓EV_ais, ↓EV_ain, ↓EV_ob h0, ↓EV_ai a1', mdF, mRun, List.mem_cons, List.not_mem_nil, or_false, mtab_eq, Nat.reduceEqDiff, Nat.zero_add, hd1, g0, g2, gl, mset2, b10, b00, not_true_eq_false, not_false_eq_true, true_implies, false_implies, implies_true, and_true, true_and, Nat.le_refl, true_or, or_true, eq_self, List.length_cons, List.length_nil, Nat.reduceAdd, Nat.reduceLT, Nat.reduceLeDiff]
    rw [hcf, hs.1]
    have x30 : (30 < nI (S.1.getD q []).length + 2) ↔ 30 < (S.1.getD q []).length + 2 := by simp (disch := omega) only [z_nI, z_lit, z_neg, z_add, z_sub, z_mul, z_lt, z_le, z_eq, z_in, z_cl]; omega
    simp only [show ((3 : Nat) < 2) = False from eq_false (by decide), ↓reduceIte, false_and, false_or] at no vi
    refine ⟨vq, fun y => no (Or.inl (x30.mp y)), fun y => m_ahead (by omega) hM hs hw.1 (by omega) hj ?_⟩
    simp (disch := omega) only [↓EVi, ↓EVc, ↓ft_X7_add, ↓reduceIte, ↓EV_obs, ↓EV_obn, ↓EV_ais, ↓EV_ain, ↓EV_ob h0, ↓EV_ai a1', mdF, mRun, List.mem_cons, List.not_mem_nil, or_false, mtab_eq, Nat.reduceEqDiff, Nat.zero_add, hd1, g0, g2, gl, mset2, b10, b00, not_true_eq_false, not_false_eq_true, true_implies, false_implies, implies_true, and_true, true_and, Nat.le_refl, true_or, or_true, eq_self, List.length_cons, List.length_nil, Nat.reduceAdd, Nat.reduceLT, Nat.reduceLeDiff]
    refine ⟨fun y2 => ?_, fun y2 => no (Or.inr (Classical.not_not.mp (fun z => y2 (x10.mpr z))))⟩
    have vv := vi.mpr (fun z => z.elim (fun z => y (x30.mpr z)) (x10.mp y2))
    rw [aRepl_some vv] at hp
    refine n_zero (by omega) hI hM hL hq (by omega) (fun h1 v1 a1 hM1 hL1 hN1 hk1 => ?_)
    simp (disch := omega) only [↓EVi, ↓EVc, ↓ft_X7_add, ↓reduceIte, ↓EV_obs, ↓EV_obn, ↓EV_ais, ↓EV_ain, ↓EV_ob hM1.1, ↓EV_ai a1', mdF, mRun, List.mem_cons, List.not_mem_nil, or_false, mtab_eq, Nat.reduceEqDiff, Nat.zero_add, hd1, g0, g2, gl, mset2, b10, b00, not_true_eq_false, not_false_eq_true, true_implies, false_implies, implies_true, and_true, true_and, Nat.le_refl, true_or, or_true, eq_self, List.length_cons, List.length_nil, Nat.reduceAdd, Nat.reduceLT, Nat.reduceLeDiff]
    refine n_put (k := 0) (p := t) hM1 hL1 hN1 (by simp only [List.length_append, List.length_take, List.length_cons, List.length_nil]; omega) rfl (rfl) (fun h2 v2 a2 hM2 hL2 hN2 hk2 => ?_)
    simp (disch := omega) only [↓EVi, ↓EVc, ↓ft_X7_add, ↓reduceIte, ↓EV_obs, ↓EV_obn, ↓EV_ais, ↓EV_ain, ↓EV_ob hM2.1, ↓EV_ai a1', mdF, mRun, List.mem_cons, List.not_mem_nil, or_false, mtab_eq, Nat.reduceEqDiff, Nat.zero_add, hd1, g0, g2, gl, mset2, b10, b00, not_true_eq_false, not_false_eq_true, true_implies, false_implies, implies_true, and_true, true_and, Nat.le_refl, true_or, or_true, eq_self, List.length_cons, List.length_nil, Nat.reduceAdd, Nat.reduceLT, Nat.reduceLeDiff]
    refine n_put (k := 2) (p := t + 1) hM2 hL2 hN2 (by simp only [List.length_append, List.length_take, List.length_cons, List.length_nil]; omega) rfl (nI_1 t) (fun h3 v3 a3 hM3 hL3 hN3 hk3 => ?_)
    simp (disch := omega) only [↓EVi, ↓EVc, ↓ft_X7_add, ↓reduceIte, ↓EV_obs, ↓EV_obn, ↓EV_ais, ↓EV_ain, ↓EV_ob hM3.1, ↓EV_ai a1', mdF, mRun, List.mem_cons, List.not_mem_nil, or_false, mtab_eq, Nat.reduceEqDiff, Nat.zero_add, hd1, g0, g2, gl, mset2, b10, b00, not_true_eq_false, not_false_eq_true, true_implies, false_implies, implies_true, and_true, true_and, Nat.le_refl, true_or, or_true, eq_self, List.length_cons, List.length_nil, Nat.reduceAdd, Nat.reduceLT, Nat.reduceLeDiff]
    refine n_rest (j := j + 0) (by omega) hI hM3 hL3 hN3 hq rfl (by omega) ?_ (fun h9 hR9 hk9 => ?_)
    · have := (vld_bd vv).1
      simp only [repl, adP, List.length_append, List.length_take, List.length_drop] at this ⊢
      simp at this ⊢
      omega
    simp (disch := omega) only [↓EVi, ↓EVc, ↓ft_X7_add, ↓reduceIte, ↓EV_obs, ↓EV_obn, ↓EV_ais, ↓EV_ain, mdF, mRun, List.mem_cons, List.not_mem_nil, or_false, mtab_eq, Nat.reduceEqDiff, Nat.zero_add, hd1, mset2, b10, b00, not_true_eq_false, not_false_eq_true, true_implies, false_implies, implies_true, and_true, true_and, Nat.le_refl, true_or, or_true, eq_self, List.length_cons, List.length_nil, Nat.reduceAdd, Nat.reduceLT, Nat.reduceLeDiff]
    have ea : adP 3 t = [(0, t), (2, t + 1)] := rfl
    rw [ea] at hp
    have key := hp h9 (by simpa only [repl, List.append_assoc, List.cons_append, List.nil_append, List.append_nil] using hR9) (mKeep_trans (mKeep_trans (mKeep_trans hk1 hk2) hk3) hk9)
    simpa only [repl, List.append_assoc, List.cons_append, List.nil_append, List.append_nil] using key
end MCS
