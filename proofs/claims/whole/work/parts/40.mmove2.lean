/-! the model: slide, uncurl, pull, straighten, swap, move, add, push -/
section MCS
variable {G : mG} {d N M : Nat} {S : AS} {h : mH} {post : Option Value → mH → Prop} {v : Nat → Int32} {a : Nat → Nat → Int32}
theorem aRepl_some {f i g : Nat} {ps : List Ev} (hv : vld (repl (S.1.getD f []) i g ps)) : aRepl f i (some (g, ps)) S = (nI (repl (S.1.getD f []) i g ps).length, (S.1.set f (repl (S.1.getD f []) i g ps), S.2)) := if_pos hv
theorem aRepl_full {f i g : Nat} {ps : List Ev} (hv : ¬ vld (repl (S.1.getD f []) i g ps)) : aRepl f i (some (g, ps)) S = (-3, S) := if_neg hv
theorem aRepl_none {f i : Nat} : aRepl f i none S = (-2, S) := rfl

set_option maxRecDepth 10000 in
theorem m_slide {f i : Nat} (hd : 4 ≤ d) (hI : SInv S) (hM : ModelC h G M v a) (hL : MRel v a S) (hf : f < S.1.length) (hi : i < (S.1.getD f []).length)
    (hp : ∀ h', MR h' G M (aRepl f i (mvP (S.1.getD f []) 1 i) S).2 → mKeep h h' M (M + 17) → post (some (.int (aRepl f i (mvP (S.1.getD f []) 1 i) S).1)) h') : MC G MX7_slide d 0 0 [.ref M, .int (nI f), .int (nI i)] h N post := by
  have hd1 : 1 ≤ d := by omega
  have h8 := hI.1
  have hw := hI.2.1 f hf
  have b := vld_bd hw.1
  have hs := hL.2.1 f hf
  have h0 := hM.1
  have none_ : mvP (S.1.getD f []) 1 i = none → post (some (.int (-2))) h := by
    intro z
    rw [z, aRepl_none] at hp
    exact hp h ⟨v, a, hM, hL⟩ mKeep_rfl
  have up : (kA (S.1.getD f []) i = 1 ∧ kA (S.1.getD f []) (i + 1) = 1 ∧ kA (S.1.getD f []) (i + 2) = 1 ∧ pA (S.1.getD f []) (i + 1) = pA (S.1.getD f []) i + 1 ∧ pA (S.1.getD f []) (i + 2) = pA (S.1.getD f []) i + 0) ↔ (i + 2 < (S.1.getD f []).length ∧ evK (S.1.getD f []) i = 1 ∧ evK (S.1.getD f []) (i + 1) = 1 ∧ evK (S.1.getD f []) (i + 2) = 1 ∧ evP (S.1.getD f []) (i + 2) = evP (S.1.getD f []) i ∧ evP (S.1.getD f []) (i + 1) = evP (S.1.getD f []) i + 1) := st_up hw.1 (a := 1) (b := 1) (c := 1) (by decide) (by decide) (by decide)
  have dn : (kA (S.1.getD f []) i = 1 ∧ kA (S.1.getD f []) (i + 1) = 1 ∧ kA (S.1.getD f []) (i + 2) = 1 ∧ pA (S.1.getD f []) (i + 1) = pA (S.1.getD f []) i + -1 ∧ pA (S.1.getD f []) (i + 2) = pA (S.1.getD f []) i + 0) ↔ (i + 2 < (S.1.getD f []).length ∧ evK (S.1.getD f []) i = 1 ∧ evK (S.1.getD f []) (i + 1) = 1 ∧ evK (S.1.getD f []) (i + 2) = 1 ∧ evP (S.1.getD f []) (i + 2) = evP (S.1.getD f []) i ∧ evP (S.1.getD f []) i = evP (S.1.getD f []) (i + 1) + 1) := st_dn hw.1 (a := 1) (b := 1) (c := 1) (by decide) (by decide) (by decide)
  refine MC.of (L0 := [some (.ref M), some (.int (nI f)), some (.int (nI i)), none, none, none, none]) gd_X7_slide (Nat.le_of_ble_eq_true rfl) rfl (MW.run gd_X7_slide [] 80 ?_)
  simp (disch := omega) only [↓EVi, ↓EVc, ↓ft_X7_slide, ↓reduceIte, ↓EV_obs, ↓EV_obn, ↓EV_ais, ↓EV_ain, ↓EV_ob h0, mdF, mRun, List.mem_cons, List.not_mem_nil, or_false, mtab_eq, Nat.reduceEqDiff, Nat.zero_add, hd1, mset2, b10, b00, not_true_eq_false, not_false_eq_true, true_implies, false_implies, implies_true, and_true, true_and, Nat.le_refl, true_or, or_true, eq_self, List.length_cons, List.length_nil, Nat.reduceAdd, Nat.reduceLT, Nat.reduceLeDiff]
  refine c_stands (by omega) hM hs (by omega) b.1 (by omega) ?_
  simp (disch := omega) only [↓EVi, ↓EVc, ↓ft_X7_slide, ↓reduceIte, ↓EV_obs, ↓EV_obn, ↓EV_ais, ↓EV_ain, ↓EV_ob h0, mdF, mRun, List.mem_cons, List.not_mem_nil, or_false, mtab_eq, Nat.reduceEqDiff, Nat.zero_add, hd1, mset2, b10, b00, not_true_eq_false, not_false_eq_true, true_implies, false_implies, implies_true, and_true, true_and, Nat.le_refl, true_or, or_true, eq_self, List.length_cons, List.length_nil, Nat.reduceAdd, Nat.reduceLT, Nat.reduceLeDiff]
  refine c_stands (by omega) hM hs (by omega) b.1 (by omega) ?_
  simp only [up, dn]
  by_cases c : k3 (S.1.getD f []) i 1 1 1
  case neg =>
    rw [if_neg (fun z => c ⟨z.1, z.2.1, z.2.2.1, z.2.2.2.1, z.2.2.2.2.1, Or.inl z.2.2.2.2.2⟩), if_neg (fun z => c ⟨z.1, z.2.1, z.2.2.1, z.2.2.2.1, z.2.2.2.2.1, Or.inr z.2.2.2.2.2⟩)]
    simp (disch := omega) only [↓EVi, ↓EVc, ↓ft_X7_slide, ↓reduceIte, ↓EV_obs, ↓EV_obn, ↓EV_ais, ↓EV_ain, ↓EV_ob h0, mdF, mRun, List.mem_cons, List.not_mem_nil, or_false, mtab_eq, Nat.reduceEqDiff, Nat.zero_add, hd1, mset2, b10, b00, not_true_eq_false, not_false_eq_true, true_implies, false_implies, implies_true, and_true, true_and, Nat.le_refl, true_or, or_true, eq_self, List.length_cons, List.length_nil, Nat.reduceAdd, Nat.reduceLT, Nat.reduceLeDiff]
    refine none_ ?_
    unfold mvP
    rw [if_neg (by decide), if_pos rfl, if_neg c]
  have pl : mvP (S.1.getD f []) 1 i = some (3, [(1, evP (S.1.getD f []) (i + 1)), (1, evP (S.1.getD f []) i), (1, evP (S.1.getD f []) (i + 1))]) := by
    unfold mvP
    rw [if_neg (by decide), if_pos rfl, if_pos c]
  obtain ⟨gg, vv⟩ := move_ok hw.1 (by decide) pl
  rw [pl, aRepl_some vv] at hp
  have pk : pA (S.1.getD f []) i = nI (evP (S.1.getD f []) i) := if_pos hi
  obtain ⟨g1, g2, g3, g4, g5, g6⟩ := c
  have s1 := vld_sm hw.1 (i := i) hi
  rcases g6 with g6 | g6
  · rw [if_pos ⟨g1, g2, g3, g4, g5, g6⟩, if_neg (fun z => by have := z.2.2.2.2.2; omega)]
    simp (disch := omega) only [↓EVi, ↓EVc, ↓ft_X7_slide, ↓reduceIte, ↓EV_obs, ↓EV_obn, ↓EV_ais, ↓EV_ain, ↓EV_ob h0, mdF, mRun, List.mem_cons, List.not_mem_nil, or_false, mtab_eq, Nat.reduceEqDiff, Nat.zero_add, hd1, mset2, b10, b00, not_true_eq_false, not_false_eq_true, true_implies, false_implies, implies_true, and_true, true_and, Nat.le_refl, true_or, or_true, eq_self, List.length_cons, List.length_nil, Nat.reduceAdd, Nat.reduceLT, Nat.reduceLeDiff]
    refine c_numberAt hM hs (by omega) b.1 (by omega) ?_
    simp (disch := omega) only [↓EVi, ↓EVc, ↓ft_X7_slide, ↓reduceIte, ↓EV_obs, ↓EV_obn, ↓EV_ais, ↓EV_ain, ↓EV_ob h0, mdF, mRun, List.mem_cons, List.not_mem_nil, or_false, mtab_eq, Nat.reduceEqDiff, Nat.zero_add, hd1, mset2, b10, b00, not_true_eq_false, not_false_eq_true, true_implies, false_implies, implies_true, and_true, true_and, Nat.le_refl, true_or, or_true, eq_self, List.length_cons, List.length_nil, Nat.reduceAdd, Nat.reduceLT, Nat.reduceLeDiff]
    rw [pk, nI_1, ← g6]
    refine n_zero (by omega) hI hM hL hf (by omega) (fun h1 v1 a1 hM1 hL1 hN1 hk1 => ?_)
    simp (disch := omega) only [↓EVi, ↓EVc, ↓ft_X7_slide, ↓reduceIte, ↓EV_obs, ↓EV_obn, ↓EV_ais, ↓EV_ain, ↓EV_ob hM1.1, mdF, mRun, List.mem_cons, List.not_mem_nil, or_false, mtab_eq, Nat.reduceEqDiff, Nat.zero_add, hd1, mset2, b10, b00, not_true_eq_false, not_false_eq_true, true_implies, false_implies, implies_true, and_true, true_and, Nat.le_refl, true_or, or_true, eq_self, List.length_cons, List.length_nil, Nat.reduceAdd, Nat.reduceLT, Nat.reduceLeDiff]
    refine n_put hM1 hL1 hN1 (by simp only [List.length_append, List.length_take, List.length_cons, List.length_nil]; omega) (rfl) (rfl) (fun h2 v2 a2 hM2 hL2 hN2 hk2 => ?_)
    simp (disch := omega) only [↓EVi, ↓EVc, ↓ft_X7_slide, ↓reduceIte, ↓EV_obs, ↓EV_obn, ↓EV_ais, ↓EV_ain, ↓EV_ob hM2.1, mdF, mRun, List.mem_cons, List.not_mem_nil, or_false, mtab_eq, Nat.reduceEqDiff, Nat.zero_add, hd1, mset2, b10, b00, not_true_eq_false, not_false_eq_true, true_implies, false_implies, implies_true, and_true, true_and, Nat.le_refl, true_or, or_true, eq_self, List.length_cons, List.length_nil, Nat.reduceAdd, Nat.reduceLT, Nat.reduceLeDiff]
    refine n_put hM2 hL2 hN2 (by simp only [List.length_append, List.length_take, List.length_cons, List.length_nil]; omega) (rfl) (rfl) (fun h3 v3 a3 hM3 hL3 hN3 hk3 => ?_)
    simp (disch := omega) only [↓EVi, ↓EVc, ↓ft_X7_slide, ↓reduceIte, ↓EV_obs, ↓EV_obn, ↓EV_ais, ↓EV_ain, ↓EV_ob hM3.1, mdF, mRun, List.mem_cons, List.not_mem_nil, or_false, mtab_eq, Nat.reduceEqDiff, Nat.zero_add, hd1, mset2, b10, b00, not_true_eq_false, not_false_eq_true, true_implies, false_implies, implies_true, and_true, true_and, Nat.le_refl, true_or, or_true, eq_self, List.length_cons, List.length_nil, Nat.reduceAdd, Nat.reduceLT, Nat.reduceLeDiff]
    refine n_put hM3 hL3 hN3 (by simp only [List.length_append, List.length_take, List.length_cons, List.length_nil]; omega) (rfl) (rfl) (fun h4 v4 a4 hM4 hL4 hN4 hk4 => ?_)
    simp (disch := omega) only [↓EVi, ↓EVc, ↓ft_X7_slide, ↓reduceIte, ↓EV_obs, ↓EV_obn, ↓EV_ais, ↓EV_ain, ↓EV_ob hM4.1, mdF, mRun, List.mem_cons, List.not_mem_nil, or_false, mtab_eq, Nat.reduceEqDiff, Nat.zero_add, hd1, mset2, b10, b00, not_true_eq_false, not_false_eq_true, true_implies, false_implies, implies_true, and_true, true_and, Nat.le_refl, true_or, or_true, eq_self, List.length_cons, List.length_nil, Nat.reduceAdd, Nat.reduceLT, Nat.reduceLeDiff]
    refine n_rest (j := i + 3) (by omega) hI hM4 hL4 hN4 hf (nI_add i 3) (by omega) ?_ (fun h9 hR9 hk9 => ?_)
    · have := (vld_bd vv).1
      simp only [repl, List.length_append, List.length_take, List.length_drop, List.length_cons, List.length_nil] at this ⊢
      omega
    simp (disch := omega) only [↓EVi, ↓EVc, ↓ft_X7_slide, ↓reduceIte, ↓EV_obs, ↓EV_obn, ↓EV_ais, ↓EV_ain, mdF, mRun, List.mem_cons, List.not_mem_nil, or_false, mtab_eq, Nat.reduceEqDiff, Nat.zero_add, hd1, mset2, b10, b00, not_true_eq_false, not_false_eq_true, true_implies, false_implies, implies_true, and_true, true_and, Nat.le_refl, true_or, or_true, eq_self, List.length_cons, List.length_nil, Nat.reduceAdd, Nat.reduceLT, Nat.reduceLeDiff]
    have key := hp h9 (by simpa only [repl, List.append_assoc, List.cons_append, List.nil_append, List.append_nil] using hR9) (mKeep_trans (mKeep_trans (mKeep_trans (mKeep_trans hk1 hk2) hk3) hk4) hk9)
    simpa only [repl, List.append_assoc, List.cons_append, List.nil_append, List.append_nil] using key
  · rw [if_neg (fun z => by have := z.2.2.2.2.2; omega), if_pos ⟨g1, g2, g3, g4, g5, g6⟩]
    simp (disch := omega) only [↓EVi, ↓EVc, ↓ft_X7_slide, ↓reduceIte, ↓EV_obs, ↓EV_obn, ↓EV_ais, ↓EV_ain, ↓EV_ob h0, mdF, mRun, List.mem_cons, List.not_mem_nil, or_false, mtab_eq, Nat.reduceEqDiff, Nat.zero_add, hd1, mset2, b10, b00, not_true_eq_false, not_false_eq_true, true_implies, false_implies, implies_true, and_true, true_and, Nat.le_refl, true_or, or_true, eq_self, List.length_cons, List.length_nil, Nat.reduceAdd, Nat.reduceLT, Nat.reduceLeDiff]
    refine c_numberAt hM hs (by omega) b.1 (by omega) ?_
    simp (disch := omega) only [↓EVi, ↓EVc, ↓ft_X7_slide, ↓reduceIte, ↓EV_obs, ↓EV_obn, ↓EV_ais, ↓EV_ain, ↓EV_ob h0, mdF, mRun, List.mem_cons, List.not_mem_nil, or_false, mtab_eq, Nat.reduceEqDiff, Nat.zero_add, hd1, mset2, b10, b00, not_true_eq_false, not_false_eq_true, true_implies, false_implies, implies_true, and_true, true_and, Nat.le_refl, true_or, or_true, eq_self, List.length_cons, List.length_nil, Nat.reduceAdd, Nat.reduceLT, Nat.reduceLeDiff]
    rw [pk, show nI (evP (S.1.getD f []) i) - 1 = nI (evP (S.1.getD f []) (i + 1)) by rw [g6]; exact nI_pred _]
    refine n_zero (by omega) hI hM hL hf (by omega) (fun h1 v1 a1 hM1 hL1 hN1 hk1 => ?_)
    simp (disch := omega) only [↓EVi, ↓EVc, ↓ft_X7_slide, ↓reduceIte, ↓EV_obs, ↓EV_obn, ↓EV_ais, ↓EV_ain, ↓EV_ob hM1.1, mdF, mRun, List.mem_cons, List.not_mem_nil, or_false, mtab_eq, Nat.reduceEqDiff, Nat.zero_add, hd1, mset2, b10, b00, not_true_eq_false, not_false_eq_true, true_implies, false_implies, implies_true, and_true, true_and, Nat.le_refl, true_or, or_true, eq_self, List.length_cons, List.length_nil, Nat.reduceAdd, Nat.reduceLT, Nat.reduceLeDiff]
    refine n_put hM1 hL1 hN1 (by simp only [List.length_append, List.length_take, List.length_cons, List.length_nil]; omega) (rfl) (rfl) (fun h2 v2 a2 hM2 hL2 hN2 hk2 => ?_)
    simp (disch := omega) only [↓EVi, ↓EVc, ↓ft_X7_slide, ↓reduceIte, ↓EV_obs, ↓EV_obn, ↓EV_ais, ↓EV_ain, ↓EV_ob hM2.1, mdF, mRun, List.mem_cons, List.not_mem_nil, or_false, mtab_eq, Nat.reduceEqDiff, Nat.zero_add, hd1, mset2, b10, b00, not_true_eq_false, not_false_eq_true, true_implies, false_implies, implies_true, and_true, true_and, Nat.le_refl, true_or, or_true, eq_self, List.length_cons, List.length_nil, Nat.reduceAdd, Nat.reduceLT, Nat.reduceLeDiff]
    refine n_put hM2 hL2 hN2 (by simp only [List.length_append, List.length_take, List.length_cons, List.length_nil]; omega) (rfl) (rfl) (fun h3 v3 a3 hM3 hL3 hN3 hk3 => ?_)
    simp (disch := omega) only [↓EVi, ↓EVc, ↓ft_X7_slide, ↓reduceIte, ↓EV_obs, ↓EV_obn, ↓EV_ais, ↓EV_ain, ↓EV_ob hM3.1, mdF, mRun, List.mem_cons, List.not_mem_nil, or_false, mtab_eq, Nat.reduceEqDiff, Nat.zero_add, hd1, mset2, b10, b00, not_true_eq_false, not_false_eq_true, true_implies, false_implies, implies_true, and_true, true_and, Nat.le_refl, true_or, or_true, eq_self, List.length_cons, List.length_nil, Nat.reduceAdd, Nat.reduceLT, Nat.reduceLeDiff]
    refine n_put hM3 hL3 hN3 (by simp only [List.length_append, List.length_take, List.length_cons, List.length_nil]; omega) (rfl) (rfl) (fun h4 v4 a4 hM4 hL4 hN4 hk4 => ?_)
    simp (disch := omega) only [↓EVi, ↓EVc, ↓ft_X7_slide, ↓reduceIte, ↓EV_obs, ↓EV_obn, ↓EV_ais, ↓EV_ain, ↓EV_ob hM4.1, mdF, mRun, List.mem_cons, List.not_mem_nil, or_false, mtab_eq, Nat.reduceEqDiff, Nat.zero_add, hd1, mset2, b10, b00, not_true_eq_false, not_false_eq_true, true_implies, false_implies, implies_true, and_true, true_and, Nat.le_refl, true_or, or_true, eq_self, List.length_cons, List.length_nil, Nat.reduceAdd, Nat.reduceLT, Nat.reduceLeDiff]
    refine n_rest (j := i + 3) (by omega) hI hM4 hL4 hN4 hf (nI_add i 3) (by omega) ?_ (fun h9 hR9 hk9 => ?_)
    · have := (vld_bd vv).1
      simp only [repl, List.length_append, List.length_take, List.length_drop, List.length_cons, List.length_nil] at this ⊢
      omega
    simp (disch := omega) only [↓EVi, ↓EVc, ↓ft_X7_slide, ↓reduceIte, ↓EV_obs, ↓EV_obn, ↓EV_ais, ↓EV_ain, mdF, mRun, List.mem_cons, List.not_mem_nil, or_false, mtab_eq, Nat.reduceEqDiff, Nat.zero_add, hd1, mset2, b10, b00, not_true_eq_false, not_false_eq_true, true_implies, false_implies, implies_true, and_true, true_and, Nat.le_refl, true_or, or_true, eq_self, List.length_cons, List.length_nil, Nat.reduceAdd, Nat.reduceLT, Nat.reduceLeDiff]
    have key := hp h9 (by simpa only [repl, List.append_assoc, List.cons_append, List.nil_append, List.append_nil] using hR9) (mKeep_trans (mKeep_trans (mKeep_trans (mKeep_trans hk1 hk2) hk3) hk4) hk9)
    simpa only [repl, List.append_assoc, List.cons_append, List.nil_append, List.append_nil] using key
set_option maxRecDepth 10000 in
theorem m_uncurl {f i : Nat} (hd : 4 ≤ d) (hI : SInv S) (hM : ModelC h G M v a) (hL : MRel v a S) (hf : f < S.1.length) (hi : i < (S.1.getD f []).length)
    (hp : ∀ h', MR h' G M (aRepl f i (mvP (S.1.getD f []) 2 i) S).2 → mKeep h h' M (M + 17) → post (some (.int (aRepl f i (mvP (S.1.getD f []) 2 i) S).1)) h') : MC G MX7_uncurl d 0 0 [.ref M, .int (nI f), .int (nI i)] h N post := by
  have hd1 : 1 ≤ d := by omega
  have h8 := hI.1
  have hw := hI.2.1 f hf
  have b := vld_bd hw.1
  have hs := hL.2.1 f hf
  have h0 := hM.1
  have none_ : mvP (S.1.getD f []) 2 i = none → post (some (.int (-2))) h := by
    intro z
    rw [z, aRepl_none] at hp
    exact hp h ⟨v, a, hM, hL⟩ mKeep_rfl
  have up : (kA (S.1.getD f []) i = 0 ∧ kA (S.1.getD f []) (i + 1) = 1 ∧ kA (S.1.getD f []) (i + 2) = 2 ∧ pA (S.1.getD f []) (i + 1) = pA (S.1.getD f []) i + 1 ∧ pA (S.1.getD f []) (i + 2) = pA (S.1.getD f []) i + 0) ↔ (i + 2 < (S.1.getD f []).length ∧ evK (S.1.getD f []) i = 0 ∧ evK (S.1.getD f []) (i + 1) = 1 ∧ evK (S.1.getD f []) (i + 2) = 2 ∧ evP (S.1.getD f []) (i + 2) = evP (S.1.getD f []) i ∧ evP (S.1.getD f []) (i + 1) = evP (S.1.getD f []) i + 1) := st_up hw.1 (a := 0) (b := 1) (c := 2) (by decide) (by decide) (by decide)
  have dn : (kA (S.1.getD f []) i = 0 ∧ kA (S.1.getD f []) (i + 1) = 1 ∧ kA (S.1.getD f []) (i + 2) = 2 ∧ pA (S.1.getD f []) (i + 1) = pA (S.1.getD f []) i + -1 ∧ pA (S.1.getD f []) (i + 2) = pA (S.1.getD f []) i + 0) ↔ (i + 2 < (S.1.getD f []).length ∧ evK (S.1.getD f []) i = 0 ∧ evK (S.1.getD f []) (i + 1) = 1 ∧ evK (S.1.getD f []) (i + 2) = 2 ∧ evP (S.1.getD f []) (i + 2) = evP (S.1.getD f []) i ∧ evP (S.1.getD f []) i = evP (S.1.getD f []) (i + 1) + 1) := st_dn hw.1 (a := 0) (b := 1) (c := 2) (by decide) (by decide) (by decide)
  refine MC.of (L0 := [some (.ref M), some (.int (nI f)), some (.int (nI i))]) gd_X7_uncurl (Nat.le_of_ble_eq_true rfl) rfl (MW.run gd_X7_uncurl [31] 80 ?_)
  simp (disch := omega) only [↓EVi, ↓EVc, ↓ft_X7_uncurl, ↓reduceIte, ↓EV_obs, ↓EV_obn, ↓EV_ais, ↓EV_ain, ↓EV_ob h0, mdF, mRun, List.mem_cons, List.not_mem_nil, or_false, mtab_eq, Nat.reduceEqDiff, Nat.zero_add, hd1, mset2, b10, b00, not_true_eq_false, not_false_eq_true, true_implies, false_implies, implies_true, and_true, true_and, Nat.le_refl, true_or, or_true, eq_self, List.length_cons, List.length_nil, Nat.reduceAdd, Nat.reduceLT, Nat.reduceLeDiff]
  refine c_stands (by omega) hM hs (by omega) b.1 (by omega) ?_
  simp only [dn]
  have yes : k3 (S.1.getD f []) i 0 1 2 → MW G MX7_uncurl (mz G d 0 0 post) 31 [some (.ref M), some (.int (nI f)), some (.int (nI i))] [] h (N, 0, 0) := by
    intro c
    have pl : mvP (S.1.getD f []) 2 i = some (3, []) := by
      unfold mvP
      rw [if_neg (by decide), if_neg (by decide), if_pos rfl, if_pos c]
    obtain ⟨gg, vv⟩ := move_ok hw.1 (by decide) pl
    rw [pl, aRepl_some vv] at hp
    have g1 := c.1
    refine MW.run gd_X7_uncurl [] 40 ?_
    simp (disch := omega) only [↓EVi, ↓EVc, ↓ft_X7_uncurl, ↓reduceIte, ↓EV_obs, ↓EV_obn, ↓EV_ais, ↓EV_ain, ↓EV_ob h0, mdF, mRun, List.mem_cons, List.not_mem_nil, or_false, mtab_eq, Nat.reduceEqDiff, Nat.zero_add, hd1, mset2, b10, b00, not_true_eq_false, not_false_eq_true, true_implies, false_implies, implies_true, and_true, true_and, Nat.le_refl, true_or, or_true, eq_self, List.length_cons, List.length_nil, Nat.reduceAdd, Nat.reduceLT, Nat.reduceLeDiff]
    refine n_zero (by omega) hI hM hL hf (by omega) (fun h1 v1 a1 hM1 hL1 hN1 hk1 => ?_)
    simp (disch := omega) only [↓EVi, ↓EVc, ↓ft_X7_uncurl, ↓reduceIte, ↓EV_obs, ↓EV_obn, ↓EV_ais, ↓EV_ain, ↓EV_ob hM1.1, mdF, mRun, List.mem_cons, List.not_mem_nil, or_false, mtab_eq, Nat.reduceEqDiff, Nat.zero_add, hd1, mset2, b10, b00, not_true_eq_false, not_false_eq_true, true_implies, false_implies, implies_true, and_true, true_and, Nat.le_refl, true_or, or_true, eq_self, List.length_cons, List.length_nil, Nat.reduceAdd, Nat.reduceLT, Nat.reduceLeDiff]
    refine n_rest (j := i + 3) (by omega) hI hM1 hL1 hN1 hf (nI_add i 3) (by omega) ?_ (fun h9 hR9 hk9 => ?_)
    · have := (vld_bd vv).1
      simp only [repl, List.length_append, List.length_take, List.length_drop, List.length_cons, List.length_nil] at this ⊢
      omega
    simp (disch := omega) only [↓EVi, ↓EVc, ↓ft_X7_uncurl, ↓reduceIte, ↓EV_obs, ↓EV_obn, ↓EV_ais, ↓EV_ain, mdF, mRun, List.mem_cons, List.not_mem_nil, or_false, mtab_eq, Nat.reduceEqDiff, Nat.zero_add, hd1, mset2, b10, b00, not_true_eq_false, not_false_eq_true, true_implies, false_implies, implies_true, and_true, true_and, Nat.le_refl, true_or, or_true, eq_self, List.length_cons, List.length_nil, Nat.reduceAdd, Nat.reduceLT, Nat.reduceLeDiff]
    have key := hp h9 (by simpa only [repl, List.append_assoc, List.cons_append, List.nil_append, List.append_nil] using hR9) (mKeep_trans hk1 hk9)
    simpa only [repl, List.append_assoc, List.cons_append, List.nil_append, List.append_nil] using key
  by_cases c1 : i + 2 < (S.1.getD f []).length ∧ evK (S.1.getD f []) i = 0 ∧ evK (S.1.getD f []) (i + 1) = 1 ∧ evK (S.1.getD f []) (i + 2) = 2 ∧ evP (S.1.getD f []) (i + 2) = evP (S.1.getD f []) i ∧ evP (S.1.getD f []) i = evP (S.1.getD f []) (i + 1) + 1
  · rw [if_pos c1]
    simp (disch := omega) only [↓EVi, ↓EVc, ↓ft_X7_uncurl, ↓reduceIte, ↓EV_obs, ↓EV_obn, ↓EV_ais, ↓EV_ain, ↓EV_ob h0, mdF, mRun, List.mem_cons, List.not_mem_nil, or_false, mtab_eq, Nat.reduceEqDiff, Nat.zero_add, hd1, mset2, b10, b00, not_true_eq_false, not_false_eq_true, true_implies, false_implies, implies_true, and_true, true_and, Nat.le_refl, true_or, or_true, eq_self, List.length_cons, List.length_nil, Nat.reduceAdd, Nat.reduceLT, Nat.reduceLeDiff]
    exact yes ⟨c1.1, c1.2.1, c1.2.2.1, c1.2.2.2.1, c1.2.2.2.2.1, Or.inr c1.2.2.2.2.2⟩
  rw [if_neg c1]
  simp (disch := omega) only [↓EVi, ↓EVc, ↓ft_X7_uncurl, ↓reduceIte, ↓EV_obs, ↓EV_obn, ↓EV_ais, ↓EV_ain, ↓EV_ob h0, mdF, mRun, List.mem_cons, List.not_mem_nil, or_false, mtab_eq, Nat.reduceEqDiff, Nat.zero_add, hd1, mset2, b10, b00, not_true_eq_false, not_false_eq_true, true_implies, false_implies, implies_true, and_true, true_and, Nat.le_refl, true_or, or_true, eq_self, List.length_cons, List.length_nil, Nat.reduceAdd, Nat.reduceLT, Nat.reduceLeDiff]
  refine c_stands (by omega) hM hs (by omega) b.1 (by omega) ?_
  simp only [up]
  by_cases c2 : i + 2 < (S.1.getD f []).length ∧ evK (S.1.getD f []) i = 0 ∧ evK (S.1.getD f []) (i + 1) = 1 ∧ evK (S.1.getD f []) (i + 2) = 2 ∧ evP (S.1.getD f []) (i + 2) = evP (S.1.getD f []) i ∧ evP (S.1.getD f []) (i + 1) = evP (S.1.getD f []) i + 1
  · rw [if_pos c2]
    simp (disch := omega) only [↓EVi, ↓EVc, ↓ft_X7_uncurl, ↓reduceIte, ↓EV_obs, ↓EV_obn, ↓EV_ais, ↓EV_ain, ↓EV_ob h0, mdF, mRun, List.mem_cons, List.not_mem_nil, or_false, mtab_eq, Nat.reduceEqDiff, Nat.zero_add, hd1, mset2, b10, b00, not_true_eq_false, not_false_eq_true, true_implies, false_implies, implies_true, and_true, true_and, Nat.le_refl, true_or, or_true, eq_self, List.length_cons, List.length_nil, Nat.reduceAdd, Nat.reduceLT, Nat.reduceLeDiff]
    exact yes ⟨c2.1, c2.2.1, c2.2.2.1, c2.2.2.2.1, c2.2.2.2.2.1, Or.inl c2.2.2.2.2.2⟩
  rw [if_neg c2]
  simp (disch := omega) only [↓EVi, ↓EVc, ↓ft_X7_uncurl, ↓reduceIte, ↓EV_obs, ↓EV_obn, ↓EV_ais, ↓EV_ain, ↓EV_ob h0, mdF, mRun, List.mem_cons, List.not_mem_nil, or_false, mtab_eq, Nat.reduceEqDiff, Nat.zero_add, hd1, mset2, b10, b00, not_true_eq_false, not_false_eq_true, true_implies, false_implies, implies_true, and_true, true_and, Nat.le_refl, true_or, or_true, eq_self, List.length_cons, List.length_nil, Nat.reduceAdd, Nat.reduceLT, Nat.reduceLeDiff]
  refine none_ ?_
  unfold mvP
  rw [if_neg (by decide), if_neg (by decide), if_pos rfl, if_neg]
  rintro ⟨z1, z2, z3, z4, z5, z6⟩
  rcases z6 with z6 | z6
  · exact c2 ⟨z1, z2, z3, z4, z5, z6⟩
  · exact c1 ⟨z1, z2, z3, z4, z5, z6⟩
set_option maxRecDepth 10000 in
theorem m_pull {f i : Nat} (hd : 4 ≤ d) (hI : SInv S) (hM : ModelC h G M v a) (hL : MRel v a S) (hf : f < S.1.length) (hi : i < (S.1.getD f []).length)
    (hp : ∀ h', MR h' G M (aRepl f i (mvP (S.1.getD f []) 3 i) S).2 → mKeep h h' M (M + 17) → post (some (.int (aRepl f i (mvP (S.1.getD f []) 3 i) S).1)) h') : MC G MX7_pull d 0 0 [.ref M, .int (nI f), .int (nI i)] h N post := by
  have hd1 : 1 ≤ d := by omega
  have h8 := hI.1
  have hw := hI.2.1 f hf
  have b := vld_bd hw.1
  have hs := hL.2.1 f hf
  have h0 := hM.1
  have none_ : mvP (S.1.getD f []) 3 i = none → post (some (.int (-2))) h := by
    intro z
    rw [z, aRepl_none] at hp
    exact hp h ⟨v, a, hM, hL⟩ mKeep_rfl
  have u1 : (kA (S.1.getD f []) i = 0 ∧ kA (S.1.getD f []) (i + 1) = 1 ∧ kA (S.1.getD f []) (i + 2) = 1 ∧ pA (S.1.getD f []) (i + 1) = pA (S.1.getD f []) i + 1 ∧ pA (S.1.getD f []) (i + 2) = pA (S.1.getD f []) i + 0) ↔ (i + 2 < (S.1.getD f []).length ∧ evK (S.1.getD f []) i = 0 ∧ evK (S.1.getD f []) (i + 1) = 1 ∧ evK (S.1.getD f []) (i + 2) = 1 ∧ evP (S.1.getD f []) (i + 2) = evP (S.1.getD f []) i ∧ evP (S.1.getD f []) (i + 1) = evP (S.1.getD f []) i + 1) := st_up hw.1 (a := 0) (b := 1) (c := 1) (by decide) (by decide) (by decide)
  have d1 : (kA (S.1.getD f []) i = 0 ∧ kA (S.1.getD f []) (i + 1) = 1 ∧ kA (S.1.getD f []) (i + 2) = 1 ∧ pA (S.1.getD f []) (i + 1) = pA (S.1.getD f []) i + -1 ∧ pA (S.1.getD f []) (i + 2) = pA (S.1.getD f []) i + 0) ↔ (i + 2 < (S.1.getD f []).length ∧ evK (S.1.getD f []) i = 0 ∧ evK (S.1.getD f []) (i + 1) = 1 ∧ evK (S.1.getD f []) (i + 2) = 1 ∧ evP (S.1.getD f []) (i + 2) = evP (S.1.getD f []) i ∧ evP (S.1.getD f []) i = evP (S.1.getD f []) (i + 1) + 1) := st_dn hw.1 (a := 0) (b := 1) (c := 1) (by decide) (by decide) (by decide)
  have u2 : (kA (S.1.getD f []) i = 1 ∧ kA (S.1.getD f []) (i + 1) = 1 ∧ kA (S.1.getD f []) (i + 2) = 2 ∧ pA (S.1.getD f []) (i + 1) = pA (S.1.getD f []) i + 1 ∧ pA (S.1.getD f []) (i + 2) = pA (S.1.getD f []) i + 0) ↔ (i + 2 < (S.1.getD f []).length ∧ evK (S.1.getD f []) i = 1 ∧ evK (S.1.getD f []) (i + 1) = 1 ∧ evK (S.1.getD f []) (i + 2) = 2 ∧ evP (S.1.getD f []) (i + 2) = evP (S.1.getD f []) i ∧ evP (S.1.getD f []) (i + 1) = evP (S.1.getD f []) i + 1) := st_up hw.1 (a := 1) (b := 1) (c := 2) (by decide) (by decide) (by decide)
  have d2 : (kA (S.1.getD f []) i = 1 ∧ kA (S.1.getD f []) (i + 1) = 1 ∧ kA (S.1.getD f []) (i + 2) = 2 ∧ pA (S.1.getD f []) (i + 1) = pA (S.1.getD f []) i + -1 ∧ pA (S.1.getD f []) (i + 2) = pA (S.1.getD f []) i + 0) ↔ (i + 2 < (S.1.getD f []).length ∧ evK (S.1.getD f []) i = 1 ∧ evK (S.1.getD f []) (i + 1) = 1 ∧ evK (S.1.getD f []) (i + 2) = 2 ∧ evP (S.1.getD f []) (i + 2) = evP (S.1.getD f []) i ∧ evP (S.1.getD f []) i = evP (S.1.getD f []) (i + 1) + 1) := st_dn hw.1 (a := 1) (b := 1) (c := 2) (by decide) (by decide) (by decide)
  have pk : pA (S.1.getD f []) i = nI (evP (S.1.getD f []) i) := if_pos hi
  have yes : ∀ (q : Nat) (y z : Int32), mvP (S.1.getD f []) 3 i = some (3, [(q, evP (S.1.getD f []) (i + 1))]) → i + 2 < (S.1.getD f []).length → y = nI q → z = nI (evP (S.1.getD f []) (i + 1)) → MW G MX7_pull (mz G d 0 0 post) 110 [some (.ref M), some (.int (nI f)), some (.int (nI i)), some (.int (nI (evP (S.1.getD f []) i))), some (.int y), some (.int z)] [] h (N, 0, 0) := by
    intro q y z pl g1 hy hz
    obtain ⟨gg, vv⟩ := move_ok hw.1 (by decide) pl
    rw [pl, aRepl_some vv] at hp
    refine MW.run gd_X7_pull [] 40 ?_
    simp (disch := omega) only [↓EVi, ↓EVc, ↓ft_X7_pull, ↓reduceIte, ↓EV_obs, ↓EV_obn, ↓EV_ais, ↓EV_ain, ↓EV_ob h0, mdF, mRun, List.mem_cons, List.not_mem_nil, or_false, mtab_eq, Nat.reduceEqDiff, Nat.zero_add, hd1, mset2, b10, b00, not_true_eq_false, not_false_eq_true, true_implies, false_implies, implies_true, and_true, true_and, Nat.le_refl, true_or, or_true, eq_self, List.length_cons, List.length_nil, Nat.reduceAdd, Nat.reduceLT, Nat.reduceLeDiff]
    refine n_zero (by omega) hI hM hL hf (by omega) (fun h1 v1 a1 hM1 hL1 hN1 hk1 => ?_)
    simp (disch := omega) only [↓EVi, ↓EVc, ↓ft_X7_pull, ↓reduceIte, ↓EV_obs, ↓EV_obn, ↓EV_ais, ↓EV_ain, ↓EV_ob hM1.1, mdF, mRun, List.mem_cons, List.not_mem_nil, or_false, mtab_eq, Nat.reduceEqDiff, Nat.zero_add, hd1, mset2, b10, b00, not_true_eq_false, not_false_eq_true, true_implies, false_implies, implies_true, and_true, true_and, Nat.le_refl, true_or, or_true, eq_self, List.length_cons, List.length_nil, Nat.reduceAdd, Nat.reduceLT, Nat.reduceLeDiff]
    refine n_put hM1 hL1 hN1 (by simp only [List.length_append, List.length_take, List.length_cons, List.length_nil]; omega) (hy) (hz) (fun h2 v2 a2 hM2 hL2 hN2 hk2 => ?_)
    simp (disch := omega) only [↓EVi, ↓EVc, ↓ft_X7_pull, ↓reduceIte, ↓EV_obs, ↓EV_obn, ↓EV_ais, ↓EV_ain, ↓EV_ob hM2.1, mdF, mRun, List.mem_cons, List.not_mem_nil, or_false, mtab_eq, Nat.reduceEqDiff, Nat.zero_add, hd1, mset2, b10, b00, not_true_eq_false, not_false_eq_true, true_implies, false_implies, implies_true, and_true, true_and, Nat.le_refl, true_or, or_true, eq_self, List.length_cons, List.length_nil, Nat.reduceAdd, Nat.reduceLT, Nat.reduceLeDiff]
    refine n_rest (j := i + 3) (by omega) hI hM2 hL2 hN2 hf (nI_add i 3) (by omega) ?_ (fun h9 hR9 hk9 => ?_)
    · have := (vld_bd vv).1
      simp only [repl, List.length_append, List.length_take, List.length_drop, List.length_cons, List.length_nil] at this ⊢
      omega
    simp (disch := omega) only [↓EVi, ↓EVc, ↓ft_X7_pull, ↓reduceIte, ↓EV_obs, ↓EV_obn, ↓EV_ais, ↓EV_ain, mdF, mRun, List.mem_cons, List.not_mem_nil, or_false, mtab_eq, Nat.reduceEqDiff, Nat.zero_add, hd1, mset2, b10, b00, not_true_eq_false, not_false_eq_true, true_implies, false_implies, implies_true, and_true, true_and, Nat.le_refl, true_or, or_true, eq_self, List.length_cons, List.length_nil, Nat.reduceAdd, Nat.reduceLT, Nat.reduceLeDiff]
    have key := hp h9 (by simpa only [repl, List.append_assoc, List.cons_append, List.nil_append, List.append_nil] using hR9) (mKeep_trans (mKeep_trans hk1 hk2) hk9)
    simpa only [repl, List.append_assoc, List.cons_append, List.nil_append, List.append_nil] using key
  refine MC.of (L0 := [some (.ref M), some (.int (nI f)), some (.int (nI i)), none, none, none]) gd_X7_pull (Nat.le_of_ble_eq_true rfl) rfl (MW.run gd_X7_pull [110] 80 ?_)
  simp (disch := omega) only [↓EVi, ↓EVc, ↓ft_X7_pull, ↓reduceIte, ↓EV_obs, ↓EV_obn, ↓EV_ais, ↓EV_ain, ↓EV_ob h0, mdF, mRun, List.mem_cons, List.not_mem_nil, or_false, mtab_eq, Nat.reduceEqDiff, Nat.zero_add, hd1, mset2, b10, b00, not_true_eq_false, not_false_eq_true, true_implies, false_implies, implies_true, and_true, true_and, Nat.le_refl, true_or, or_true, eq_self, List.length_cons, List.length_nil, Nat.reduceAdd, Nat.reduceLT, Nat.reduceLeDiff]
  refine c_numberAt hM hs (by omega) b.1 (by omega) ?_
  rw [pk]
  simp (disch := omega) only [↓EVi, ↓EVc, ↓ft_X7_pull, ↓reduceIte, ↓EV_obs, ↓EV_obn, ↓EV_ais, ↓EV_ain, ↓EV_ob h0, mdF, mRun, List.mem_cons, List.not_mem_nil, or_false, mtab_eq, Nat.reduceEqDiff, Nat.zero_add, hd1, mset2, b10, b00, not_true_eq_false, not_false_eq_true, true_implies, false_implies, implies_true, and_true, true_and, Nat.le_refl, true_or, or_true, eq_self, List.length_cons, List.length_nil, Nat.reduceAdd, Nat.reduceLT, Nat.reduceLeDiff]
  refine c_stands (by omega) hM hs (by omega) b.1 (by omega) ?_
  simp only [u1]
  by_cases c0 : i + 2 < (S.1.getD f []).length ∧ evK (S.1.getD f []) i = 0 ∧ evK (S.1.getD f []) (i + 1) = 1 ∧ evK (S.1.getD f []) (i + 2) = 1 ∧ evP (S.1.getD f []) (i + 2) = evP (S.1.getD f []) i ∧ evP (S.1.getD f []) (i + 1) = evP (S.1.getD f []) i + 1
  · rw [if_pos c0]
    simp (disch := omega) only [↓EVi, ↓EVc, ↓ft_X7_pull, ↓reduceIte, ↓EV_obs, ↓EV_obn, ↓EV_ais, ↓EV_ain, ↓EV_ob h0, mdF, mRun, List.mem_cons, List.not_mem_nil, or_false, mtab_eq, Nat.reduceEqDiff, Nat.zero_add, hd1, mset2, b10, b00, not_true_eq_false, not_false_eq_true, true_implies, false_implies, implies_true, and_true, true_and, Nat.le_refl, true_or, or_true, eq_self, List.length_cons, List.length_nil, Nat.reduceAdd, Nat.reduceLT, Nat.reduceLeDiff]
    refine yes 0 _ _ ?_ c0.1 rfl ?_
    · unfold mvP
      rw [if_neg (by decide), if_neg (by decide), if_neg (by decide), if_pos rfl, if_pos ⟨c0.1, c0.2.1, c0.2.2.1, c0.2.2.2.1, c0.2.2.2.2.1, Or.inl c0.2.2.2.2.2⟩]
    · rw [c0.2.2.2.2.2, nI_1]
  rw [if_neg c0]
  simp (disch := omega) only [↓EVi, ↓EVc, ↓ft_X7_pull, ↓reduceIte, ↓EV_obs, ↓EV_obn, ↓EV_ais, ↓EV_ain, ↓EV_ob h0, mdF, mRun, List.mem_cons, List.not_mem_nil, or_false, mtab_eq, Nat.reduceEqDiff, Nat.zero_add, hd1, mset2, b10, b00, not_true_eq_false, not_false_eq_true, true_implies, false_implies, implies_true, and_true, true_and, Nat.le_refl, true_or, or_true, eq_self, List.length_cons, List.length_nil, Nat.reduceAdd, Nat.reduceLT, Nat.reduceLeDiff]
  refine c_stands (by omega) hM hs (by omega) b.1 (by omega) ?_
  simp only [d1]
  by_cases c1 : i + 2 < (S.1.getD f []).length ∧ evK (S.1.getD f []) i = 0 ∧ evK (S.1.getD f []) (i + 1) = 1 ∧ evK (S.1.getD f []) (i + 2) = 1 ∧ evP (S.1.getD f []) (i + 2) = evP (S.1.getD f []) i ∧ evP (S.1.getD f []) i = evP (S.1.getD f []) (i + 1) + 1
  · rw [if_pos c1]
    simp (disch := omega) only [↓EVi, ↓EVc, ↓ft_X7_pull, ↓reduceIte, ↓EV_obs, ↓EV_obn, ↓EV_ais, ↓EV_ain, ↓EV_ob h0, mdF, mRun, List.mem_cons, List.not_mem_nil, or_false, mtab_eq, Nat.reduceEqDiff, Nat.zero_add, hd1, mset2, b10, b00, not_true_eq_false, not_false_eq_true, true_implies, false_implies, implies_true, and_true, true_and, Nat.le_refl, true_or, or_true, eq_self, List.length_cons, List.length_nil, Nat.reduceAdd, Nat.reduceLT, Nat.reduceLeDiff]
    refine yes 0 _ _ ?_ c1.1 rfl ?_
    · unfold mvP
      rw [if_neg (by decide), if_neg (by decide), if_neg (by decide), if_pos rfl, if_pos ⟨c1.1, c1.2.1, c1.2.2.1, c1.2.2.2.1, c1.2.2.2.2.1, Or.inr c1.2.2.2.2.2⟩]
    · rw [c1.2.2.2.2.2]
      exact nI_pred _
  rw [if_neg c1]
  simp (disch := omega) only [↓EVi, ↓EVc, ↓ft_X7_pull, ↓reduceIte, ↓EV_obs, ↓EV_obn, ↓EV_ais, ↓EV_ain, ↓EV_ob h0, mdF, mRun, List.mem_cons, List.not_mem_nil, or_false, mtab_eq, Nat.reduceEqDiff, Nat.zero_add, hd1, mset2, b10, b00, not_true_eq_false, not_false_eq_true, true_implies, false_implies, implies_true, and_true, true_and, Nat.le_refl, true_or, or_true, eq_self, List.length_cons, List.length_nil, Nat.reduceAdd, Nat.reduceLT, Nat.reduceLeDiff]
  refine c_stands (by omega) hM hs (by omega) b.1 (by omega) ?_
  simp only [u2]
  by_cases c2 : i + 2 < (S.1.getD f []).length ∧ evK (S.1.getD f []) i = 1 ∧ evK (S.1.getD f []) (i + 1) = 1 ∧ evK (S.1.getD f []) (i + 2) = 2 ∧ evP (S.1.getD f []) (i + 2) = evP (S.1.getD f []) i ∧ evP (S.1.getD f []) (i + 1) = evP (S.1.getD f []) i + 1
  · rw [if_pos c2]
    simp (disch := omega) only [↓EVi, ↓EVc, ↓ft_X7_pull, ↓reduceIte, ↓EV_obs, ↓EV_obn, ↓EV_ais, ↓EV_ain, ↓EV_ob h0, mdF, mRun, List.mem_cons, List.not_mem_nil, or_false, mtab_eq, Nat.reduceEqDiff, Nat.zero_add, hd1, mset2, b10, b00, not_true_eq_false, not_false_eq_true, true_implies, false_implies, implies_true, and_true, true_and, Nat.le_refl, true_or, or_true, eq_self, List.length_cons, List.length_nil, Nat.reduceAdd, Nat.reduceLT, Nat.reduceLeDiff]
    refine yes 2 _ _ ?_ c2.1 rfl ?_
    · unfold mvP
      rw [if_neg (by decide), if_neg (by decide), if_neg (by decide), if_pos rfl, if_neg (fun z => by have := z.2.1; have := c2.2.1; omega), if_pos ⟨c2.1, c2.2.1, c2.2.2.1, c2.2.2.2.1, c2.2.2.2.2.1, Or.inl c2.2.2.2.2.2⟩]
    · rw [c2.2.2.2.2.2, nI_1]
  rw [if_neg c2]
  simp (disch := omega) only [↓EVi, ↓EVc, ↓ft_X7_pull, ↓reduceIte, ↓EV_obs, ↓EV_obn, ↓EV_ais, ↓EV_ain, ↓EV_ob h0, mdF, mRun, List.mem_cons, List.not_mem_nil, or_false, mtab_eq, Nat.reduceEqDiff, Nat.zero_add, hd1, mset2, b10, b00, not_true_eq_false, not_false_eq_true, true_implies, false_implies, implies_true, and_true, true_and, Nat.le_refl, true_or, or_true, eq_self, List.length_cons, List.length_nil, Nat.reduceAdd, Nat.reduceLT, Nat.reduceLeDiff]
  refine c_stands (by omega) hM hs (by omega) b.1 (by omega) ?_
  simp only [d2]
  by_cases c3 : i + 2 < (S.1.getD f []).length ∧ evK (S.1.getD f []) i = 1 ∧ evK (S.1.getD f []) (i + 1) = 1 ∧ evK (S.1.getD f []) (i + 2) = 2 ∧ evP (S.1.getD f []) (i + 2) = evP (S.1.getD f []) i ∧ evP (S.1.getD f []) i = evP (S.1.getD f []) (i + 1) + 1
  · rw [if_pos c3]
    simp (disch := omega) only [↓EVi, ↓EVc, ↓ft_X7_pull, ↓reduceIte, ↓EV_obs, ↓EV_obn, ↓EV_ais, ↓EV_ain, ↓EV_ob h0, mdF, mRun, List.mem_cons, List.not_mem_nil, or_false, mtab_eq, Nat.reduceEqDiff, Nat.zero_add, hd1, mset2, b10, b00, not_true_eq_false, not_false_eq_true, true_implies, false_implies, implies_true, and_true, true_and, Nat.le_refl, true_or, or_true, eq_self, List.length_cons, List.length_nil, Nat.reduceAdd, Nat.reduceLT, Nat.reduceLeDiff]
    refine yes 2 _ _ ?_ c3.1 rfl ?_
    · unfold mvP
      rw [if_neg (by decide), if_neg (by decide), if_neg (by decide), if_pos rfl, if_neg (fun z => by have := z.2.1; have := c3.2.1; omega), if_pos ⟨c3.1, c3.2.1, c3.2.2.1, c3.2.2.2.1, c3.2.2.2.2.1, Or.inr c3.2.2.2.2.2⟩]
    · rw [c3.2.2.2.2.2]
      exact nI_pred _
  rw [if_neg c3]
  simp (disch := omega) only [↓EVi, ↓EVc, ↓ft_X7_pull, ↓reduceIte, ↓EV_obs, ↓EV_obn, ↓EV_ais, ↓EV_ain, ↓EV_ob h0, mdF, mRun, List.mem_cons, List.not_mem_nil, or_false, mtab_eq, Nat.reduceEqDiff, Nat.zero_add, hd1, mset2, b10, b00, not_true_eq_false, not_false_eq_true, true_implies, false_implies, implies_true, and_true, true_and, Nat.le_refl, true_or, or_true, eq_self, List.length_cons, List.length_nil, Nat.reduceAdd, Nat.reduceLT, Nat.reduceLeDiff]
  refine none_ ?_
  unfold mvP
  rw [if_neg (by decide), if_neg (by decide), if_neg (by decide), if_pos rfl, if_neg, if_neg]
  · rintro ⟨z1, z2, z3, z4, z5, z6⟩
    rcases z6 with z6 | z6
    · exact c2 ⟨z1, z2, z3, z4, z5, z6⟩
    · exact c3 ⟨z1, z2, z3, z4, z5, z6⟩
  · rintro ⟨z1, z2, z3, z4, z5, z6⟩
    rcases z6 with z6 | z6
    · exact c0 ⟨z1, z2, z3, z4, z5, z6⟩
    · exact c1 ⟨z1, z2, z3, z4, z5, z6⟩
end MCS
