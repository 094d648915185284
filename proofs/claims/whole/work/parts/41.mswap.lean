/-! the model: straighten, swap -/
theorem zI_congr {x y : Int} (h : x = y) : zI x = zI y := by rw [h]
theorem b02 : ((0 : Int32) = 2) = False := by decide
theorem b12 : ((1 : Int32) = 2) = False := by decide
theorem b20 : ((2 : Int32) = 0) = False := by decide
section MCS
variable {G : mG} {d N M : Nat} {S : AS} {h : mH} {post : Option Value → mH → Prop} {v : Nat → Int32} {a : Nat → Nat → Int32}

set_option maxRecDepth 10000 in
theorem m_straighten {f i : Nat} (hd : 4 ≤ d) (hI : SInv S) (hM : ModelC h G M v a) (hL : MRel v a S) (hf : f < S.1.length) (hi : i < (S.1.getD f []).length)
    (hp : ∀ h', MR h' G M (aRepl f i (mvP (S.1.getD f []) 4 i) S).2 → mKeep h h' M (M + 17) → post (some (.int (aRepl f i (mvP (S.1.getD f []) 4 i) S).1)) h') : MC G MX7_straighten d 0 0 [.ref M, .int (nI f), .int (nI i)] h N post := by
  have hd1 : 1 ≤ d := by omega
  have h8 := hI.1
  have hw := hI.2.1 f hf
  have b := vld_bd hw.1
  have hs := hL.2.1 f hf
  have h0 := hM.1
  have none_ : mvP (S.1.getD f []) 4 i = none → post (some (.int (-2))) h := by
    intro z
    rw [z, aRepl_none] at hp
    exact hp h ⟨v, a, hM, hL⟩ mKeep_rfl
  have pk : pA (S.1.getD f []) i = nI (evP (S.1.getD f []) i) := if_pos hi
  have ek : kA (S.1.getD f []) i = nI (evK (S.1.getD f []) i) := if_pos hi
  have s1 := vld_sm hw.1 (i := i) hi
  have pln : ¬ (i + 1 < (S.1.getD f []).length ∧ evK (S.1.getD f []) i = 0 ∧ evK (S.1.getD f []) (i + 1) = 2 ∧ nb (evP (S.1.getD f []) i) (evP (S.1.getD f []) (i + 1))) → post (some (.int (-2))) h := by
    intro z
    refine none_ ?_
    unfold mvP
    rw [if_neg (by decide), if_neg (by decide), if_neg (by decide), if_neg (by decide), if_neg z]
  have yes : (i + 1 < (S.1.getD f []).length ∧ evK (S.1.getD f []) i = 0 ∧ evK (S.1.getD f []) (i + 1) = 2 ∧ nb (evP (S.1.getD f []) i) (evP (S.1.getD f []) (i + 1))) → ∀ y, MW G MX7_straighten (mz G d 0 0 post) 50 [some (.ref M), some (.int (nI f)), some (.int (nI i)), y] [] h (N, 0, 0) := by
    intro c y
    have pl : mvP (S.1.getD f []) 4 i = some (2, []) := by
      unfold mvP
      rw [if_neg (by decide), if_neg (by decide), if_neg (by decide), if_neg (by decide), if_pos c]
    obtain ⟨gg, vv⟩ := move_ok hw.1 (by decide) pl
    rw [pl, aRepl_some vv] at hp
    have g1 := c.1
    refine MW.run gd_X7_straighten [] 40 ?_
    simp (disch := omega) only [↓EVi, ↓EVc, ↓ft_X7_straighten, ↓reduceIte, ↓EV_obs, ↓EV_obn, ↓EV_ais, ↓EV_ain, ↓EV_ob h0, mdF, mRun, List.mem_cons, List.not_mem_nil, or_false, mtab_eq, Nat.reduceEqDiff, Nat.zero_add, hd1, mset2, b10, b00, not_true_eq_false, not_false_eq_true, true_implies, false_implies, implies_true, and_true, true_and, Nat.le_refl, true_or, or_true, eq_self, List.length_cons, List.length_nil, Nat.reduceAdd, Nat.reduceLT, Nat.reduceLeDiff]
    refine n_zero (by omega) hI hM hL hf (by omega) (fun h1 v1 a1 hM1 hL1 hN1 hk1 => ?_)
    simp (disch := omega) only [↓EVi, ↓EVc, ↓ft_X7_straighten, ↓reduceIte, ↓EV_obs, ↓EV_obn, ↓EV_ais, ↓EV_ain, ↓EV_ob hM1.1, mdF, mRun, List.mem_cons, List.not_mem_nil, or_false, mtab_eq, Nat.reduceEqDiff, Nat.zero_add, hd1, mset2, b10, b00, not_true_eq_false, not_false_eq_true, true_implies, false_implies, implies_true, and_true, true_and, Nat.le_refl, true_or, or_true, eq_self, List.length_cons, List.length_nil, Nat.reduceAdd, Nat.reduceLT, Nat.reduceLeDiff]
    refine n_rest (j := i + 2) (by omega) hI hM1 hL1 hN1 hf (nI_add i 2) (by omega) ?_ (fun h9 hR9 hk9 => ?_)
    · have := (vld_bd vv).1
      simp only [repl, List.length_append, List.length_take, List.length_drop, List.length_cons, List.length_nil] at this ⊢
      omega
    simp (disch := omega) only [↓EVi, ↓EVc, ↓ft_X7_straighten, ↓reduceIte, ↓EV_obs, ↓EV_obn, ↓EV_ais, ↓EV_ain, mdF, mRun, List.mem_cons, List.not_mem_nil, or_false, mtab_eq, Nat.reduceEqDiff, Nat.zero_add, hd1, mset2, b10, b00, not_true_eq_false, not_false_eq_true, true_implies, false_implies, implies_true, and_true, true_and, Nat.le_refl, true_or, or_true, eq_self, List.length_cons, List.length_nil, Nat.reduceAdd, Nat.reduceLT, Nat.reduceLeDiff]
    have key := hp h9 (by simpa only [repl, List.append_assoc, List.cons_append, List.nil_append, List.append_nil] using hR9) (mKeep_trans hk1 hk9)
    simpa only [repl, List.append_assoc, List.cons_append, List.nil_append, List.append_nil] using key
  refine MC.of (L0 := [some (.ref M), some (.int (nI f)), some (.int (nI i)), none]) gd_X7_straighten (Nat.le_of_ble_eq_true rfl) rfl (MW.run gd_X7_straighten [50] 80 ?_)
  simp (disch := omega) only [↓EVi, ↓EVc, ↓ft_X7_straighten, ↓reduceIte, ↓EV_obs, ↓EV_obn, ↓EV_ais, ↓EV_ain, ↓EV_ob h0, mdF, mRun, List.mem_cons, List.not_mem_nil, or_false, mtab_eq, Nat.reduceEqDiff, Nat.zero_add, hd1, mset2, b10, b00, not_true_eq_false, not_false_eq_true, true_implies, false_implies, implies_true, and_true, true_and, Nat.le_refl, true_or, or_true, eq_self, List.length_cons, List.length_nil, Nat.reduceAdd, Nat.reduceLT, Nat.reduceLeDiff]
  rw [nI_1]
  refine c_numberAt hM hs (by omega) b.1 (by omega) ?_
  simp (disch := omega) only [↓EVi, ↓EVc, ↓ft_X7_straighten, ↓reduceIte, ↓EV_obs, ↓EV_obn, ↓EV_ais, ↓EV_ain, ↓EV_ob h0, mdF, mRun, List.mem_cons, List.not_mem_nil, or_false, mtab_eq, Nat.reduceEqDiff, Nat.zero_add, hd1, mset2, b10, b00, not_true_eq_false, not_false_eq_true, true_implies, false_implies, implies_true, and_true, true_and, Nat.le_refl, true_or, or_true, eq_self, List.length_cons, List.length_nil, Nat.reduceAdd, Nat.reduceLT, Nat.reduceLeDiff]
  refine c_numberAt hM hs (by omega) b.1 (by omega) ?_
  simp (disch := omega) only [↓EVi, ↓EVc, ↓ft_X7_straighten, ↓reduceIte, ↓EV_obs, ↓EV_obn, ↓EV_ais, ↓EV_ain, ↓EV_ob h0, mdF, mRun, List.mem_cons, List.not_mem_nil, or_false, mtab_eq, Nat.reduceEqDiff, Nat.zero_add, hd1, mset2, b10, b00, not_true_eq_false, not_false_eq_true, true_implies, false_implies, implies_true, and_true, true_and, Nat.le_refl, true_or, or_true, eq_self, List.length_cons, List.length_nil, Nat.reduceAdd, Nat.reduceLT, Nat.reduceLeDiff]
  refine c_kindAt hM hs (by omega) b.1 (by omega) ?_
  simp (disch := omega) only [↓EVi, ↓EVc, ↓ft_X7_straighten, ↓reduceIte, ↓EV_obs, ↓EV_obn, ↓EV_ais, ↓EV_ain, ↓EV_ob h0, mdF, mRun, List.mem_cons, List.not_mem_nil, or_false, mtab_eq, Nat.reduceEqDiff, Nat.zero_add, hd1, mset2, b10, b00, not_true_eq_false, not_false_eq_true, true_implies, false_implies, implies_true, and_true, true_and, Nat.le_refl, true_or, or_true, eq_self, List.length_cons, List.length_nil, Nat.reduceAdd, Nat.reduceLT, Nat.reduceLeDiff]
  refine ⟨fun c0 => pln (fun z => c0 (by rw [ek, z.2.1]; rfl)), fun c0 => ?_⟩
  rw [nI_1]
  refine c_kindAt hM hs (by omega) b.1 (by omega) ?_
  simp (disch := omega) only [↓EVi, ↓EVc, ↓ft_X7_straighten, ↓reduceIte, ↓EV_obs, ↓EV_obn, ↓EV_ais, ↓EV_ain, ↓EV_ob h0, mdF, mRun, List.mem_cons, List.not_mem_nil, or_false, mtab_eq, Nat.reduceEqDiff, Nat.zero_add, hd1, mset2, b10, b00, not_true_eq_false, not_false_eq_true, true_implies, false_implies, implies_true, and_true, true_and, Nat.le_refl, true_or, or_true, eq_self, List.length_cons, List.length_nil, Nat.reduceAdd, Nat.reduceLT, Nat.reduceLeDiff]
  have c0' : evK (S.1.getD f []) i = 0 := by
    have q := Classical.not_not.mp c0
    rw [ek] at q
    exact (nI_eq (b := 0) (by omega) (by omega)).mp q
  refine ⟨fun c1 => pln (fun z => c1 ?_), fun c1 => ?_⟩
  · unfold kA
    rw [if_pos z.1, z.2.2.1]
    rfl
  have c1' := Classical.not_not.mp c1
  by_cases hl : i + 1 < (S.1.getD f []).length
  case neg =>
    exfalso
    unfold kA at c1'
    rw [if_neg hl] at c1'
    exact absurd c1' (by decide)
  have s2 := vld_sm hw.1 (i := i + 1) hl
  have c2' : evK (S.1.getD f []) (i + 1) = 2 := by
    unfold kA at c1'
    rw [if_pos hl] at c1'
    exact (nI_eq (b := 2) (by omega) (by omega)).mp c1'
  have pm : pA (S.1.getD f []) (i + 1) = nI (evP (S.1.getD f []) (i + 1)) := if_pos hl
  have e1 : (pA (S.1.getD f []) (i + 1) - pA (S.1.getD f []) i = 1) ↔ evP (S.1.getD f []) (i + 1) = evP (S.1.getD f []) i + 1 := by
    rw [pk, pm]
    simp (disch := omega) only [z_nI, z_lit, z_neg, z_add, z_sub, z_mul, z_lt, z_le, z_eq, z_in, z_cl]
    omega
  have e2 : (pA (S.1.getD f []) (i + 1) - pA (S.1.getD f []) i = -1) ↔ evP (S.1.getD f []) i = evP (S.1.getD f []) (i + 1) + 1 := by
    rw [pk, pm]
    simp (disch := omega) only [z_nI, z_lit, z_neg, z_add, z_sub, z_mul, z_lt, z_le, z_eq, z_in, z_cl]
    omega
  refine ⟨fun q => yes ⟨hl, c0', c2', Or.inl (e1.mp q)⟩ _, fun q1 => ⟨fun q => yes ⟨hl, c0', c2', Or.inr (e2.mp q)⟩ _, fun q2 => pln (fun z => ?_)⟩⟩
  rcases z.2.2.2 with z | z
  · exact q1 (e1.mpr z)
  · exact q2 (e2.mpr z)
set_option maxRecDepth 10000 in
theorem m_swap {f i : Nat} (hd : 4 ≤ d) (hI : SInv S) (hM : ModelC h G M v a) (hL : MRel v a S) (hf : f < S.1.length) (hi : i < (S.1.getD f []).length)
    (hp : ∀ h', MR h' G M (aRepl f i (mvP (S.1.getD f []) 0 i) S).2 → mKeep h h' M (M + 17) → post (some (.int (aRepl f i (mvP (S.1.getD f []) 0 i) S).1)) h') : MC G MX7_swap d 0 0 [.ref M, .int (nI f), .int (nI i)] h N post := by
  have hd1 : 1 ≤ d := by omega
  have h8 := hI.1
  have hw := hI.2.1 f hf
  have b := vld_bd hw.1
  have hs := hL.2.1 f hf
  have h0 := hM.1
  have none_ : mvP (S.1.getD f []) 0 i = none → post (some (.int (-2))) h := by
    intro z
    rw [z, aRepl_none] at hp
    exact hp h ⟨v, a, hM, hL⟩ mKeep_rfl
  have a1' : h (M + 1) = some (.inl (gC G 0, 8, .inl (a 1))) := hM.2 1 (by decide) (by decide)
  have hcf : (nI f).toNatClampNeg = f := nI_clamp (by omega)
  have pk : pA (S.1.getD f []) i = nI (evP (S.1.getD f []) i) := if_pos hi
  have s1 := vld_sm hw.1 (i := i) hi
  have hA := (vld_le hw.1 i (by omega)).2.1
  refine MC.of (L0 := [some (.ref M), some (.int (nI f)), some (.int (nI i)), none, none, none, none, none, none, none]) gd_X7_swap (Nat.le_of_ble_eq_true rfl) rfl (MW.run gd_X7_swap [] 120 ?_)
  simp (disch := omega) only [↓EVi, ↓EVc, ↓ft_X7_swap, ↓reduceIte, ↓EV_obs, ↓EV_obn, ↓EV_ais, ↓EV_ain, ↓EV_ob h0, ↓EV_ai a1', mdF, mRun, List.mem_cons, List.not_mem_nil, or_false, mtab_eq, Nat.reduceEqDiff, Nat.zero_add, hd1, mset2, b10, b00, not_true_eq_false, not_false_eq_true, true_implies, false_implies, implies_true, and_true, true_and, Nat.le_refl, true_or, or_true, eq_self, List.length_cons, List.length_nil, Nat.reduceAdd, Nat.reduceLT, Nat.reduceLeDiff]
  rw [hcf, hs.1, nI_1]
  refine ⟨vp_in_nI (by omega) (by decide), fun c => ?_, fun c => none_ ?_⟩
  case refine_2 =>
    unfold mvP
    rw [if_pos rfl, if_neg (fun z => c ((nI_ltI (by omega) (by omega)).mpr z))]
  have hl : i + 1 < (S.1.getD f []).length := (nI_ltI (by omega) (by omega)).mp c
  have s2 := vld_sm hw.1 (i := i + 1) hl
  have pm : pA (S.1.getD f []) (i + 1) = nI (evP (S.1.getD f []) (i + 1)) := if_pos hl
  have pl0 : mvP (S.1.getD f []) 0 i = (if evP (S.1.getD f []) i + (if evK (S.1.getD f []) i = 2 then 0 else 2) ≤ evP (S.1.getD f []) (i + 1) then some (2, [(evK (S.1.getD f []) (i + 1), subA (evP (S.1.getD f []) (i + 1)) (evK (S.1.getD f []) i)), (evK (S.1.getD f []) i, evP (S.1.getD f []) i)]) else if evP (S.1.getD f []) (i + 1) + (if evK (S.1.getD f []) (i + 1) = 0 then 0 else 2) ≤ evP (S.1.getD f []) i then some (2, [(evK (S.1.getD f []) (i + 1), evP (S.1.getD f []) (i + 1)), (evK (S.1.getD f []) i, stp (evP (S.1.getD f []) i) (evK (S.1.getD f []) (i + 1)))]) else none) := by
    unfold mvP
    rw [if_pos rfl, if_pos hl]
  have sw := fun g ps => swap_ok hw.1 (i := i) (g := g) (ps := ps)
  rcases (by omega : evK (S.1.getD f []) i = 0 ∨ evK (S.1.getD f []) i = 1 ∨ evK (S.1.getD f []) i = 2) with he | he | he <;> rcases (by omega : evK (S.1.getD f []) (i + 1) = 0 ∨ evK (S.1.getD f []) (i + 1) = 1 ∨ evK (S.1.getD f []) (i + 1) = 2) with hg | hg | hg
  · have ke : kA (S.1.getD f []) i = 0 := by unfold kA; rw [if_pos hi, he]; rfl
    have kg : kA (S.1.getD f []) (i + 1) = 0 := by unfold kA; rw [if_pos hl, hg]; rfl
    rw [he, hg] at pl0
    simp only [subA, stp] at pl0
    simp only [↓reduceIte, Nat.reduceEqDiff, Nat.add_zero] at pl0
    rw [hg] at sw
    refine c_kindAt hM hs (by omega) b.1 (by omega) ?_
    simp (disch := omega) only [↓EVi, ↓EVc, ↓ft_X7_swap, ↓reduceIte, ↓EV_obs, ↓EV_obn, ↓EV_ais, ↓EV_ain, ↓EV_ob h0, mdF, mRun, List.mem_cons, List.not_mem_nil, or_false, mtab_eq, Nat.reduceEqDiff, Nat.zero_add, hd1, ke, kg, pk, pm, b02, b12, b20, mset2, b10, b00, not_true_eq_false, not_false_eq_true, true_implies, false_implies, implies_true, and_true, true_and, Nat.le_refl, true_or, or_true, eq_self, List.length_cons, List.length_nil, Nat.reduceAdd, Nat.reduceLT, Nat.reduceLeDiff]
    rw [nI_1]
    refine c_kindAt hM hs (by omega) b.1 (by omega) ?_
    simp (disch := omega) only [↓EVi, ↓EVc, ↓ft_X7_swap, ↓reduceIte, ↓EV_obs, ↓EV_obn, ↓EV_ais, ↓EV_ain, ↓EV_ob h0, mdF, mRun, List.mem_cons, List.not_mem_nil, or_false, mtab_eq, Nat.reduceEqDiff, Nat.zero_add, hd1, ke, kg, pk, pm, b02, b12, b20, mset2, b10, b00, not_true_eq_false, not_false_eq_true, true_implies, false_implies, implies_true, and_true, true_and, Nat.le_refl, true_or, or_true, eq_self, List.length_cons, List.length_nil, Nat.reduceAdd, Nat.reduceLT, Nat.reduceLeDiff]
    refine c_numberAt hM hs (by omega) b.1 (by omega) ?_
    simp (disch := omega) only [↓EVi, ↓EVc, ↓ft_X7_swap, ↓reduceIte, ↓EV_obs, ↓EV_obn, ↓EV_ais, ↓EV_ain, ↓EV_ob h0, mdF, mRun, List.mem_cons, List.not_mem_nil, or_false, mtab_eq, Nat.reduceEqDiff, Nat.zero_add, hd1, ke, kg, pk, pm, b02, b12, b20, mset2, b10, b00, not_true_eq_false, not_false_eq_true, true_implies, false_implies, implies_true, and_true, true_and, Nat.le_refl, true_or, or_true, eq_self, List.length_cons, List.length_nil, Nat.reduceAdd, Nat.reduceLT, Nat.reduceLeDiff]
    rw [nI_1]
    refine c_numberAt hM hs (by omega) b.1 (by omega) ?_
    simp (disch := omega) only [↓EVi, ↓EVc, ↓ft_X7_swap, ↓reduceIte, ↓EV_obs, ↓EV_obn, ↓EV_ais, ↓EV_ain, ↓EV_ob h0, mdF, mRun, List.mem_cons, List.not_mem_nil, or_false, mtab_eq, Nat.reduceEqDiff, Nat.zero_add, hd1, ke, kg, pk, pm, b02, b12, b20, mset2, b10, b00, not_true_eq_false, not_false_eq_true, true_implies, false_implies, implies_true, and_true, true_and, Nat.le_refl, true_or, or_true, eq_self, List.length_cons, List.length_nil, Nat.reduceAdd, Nat.reduceLT, Nat.reduceLeDiff]
    have x1 : (nI (evP (S.1.getD f []) (i + 1)) < nI (evP (S.1.getD f []) i) + 2) ↔ ¬ evP (S.1.getD f []) i + 2 ≤ evP (S.1.getD f []) (i + 1) := by simp (disch := omega) only [z_nI, z_lit, z_neg, z_add, z_sub, z_mul, z_lt, z_le, z_eq, z_in, z_cl]; omega
    have x2 : (nI (evP (S.1.getD f []) (i + 1)) + 0 ≤ nI (evP (S.1.getD f []) i)) ↔ evP (S.1.getD f []) (i + 1) + 0 ≤ evP (S.1.getD f []) i := by simp (disch := omega) only [z_nI, z_lit, z_neg, z_add, z_sub, z_mul, z_lt, z_le, z_eq, z_in, z_cl]; omega
    have x3 : (nI (ahL ((S.1.getD f []).take i)) + 2 ≤ 10) ↔ ((0 : Nat) = 0 → ahL ((S.1.getD f []).take i) + 2 ≤ 10) := by simp (disch := omega) only [z_nI, z_lit, z_neg, z_add, z_sub, z_mul, z_lt, z_le, z_eq, z_in, z_cl]; exact ⟨fun q _ => by omega, fun q => by have := q trivial; omega⟩
    refine ⟨fun y1 => ⟨fun y2 => ?_, fun y2 => none_ ?_⟩, fun y1 => ?_⟩
    · rw [if_neg (fun z => x1.mp y1 (by omega)), if_pos (by have := x2.mp y2; omega)] at pl0
      have z2 := x2.mp y2
      obtain ⟨gg, vi⟩ := sw _ _ pl0
      refine m_ahead (by omega) hM hs hw.1 (by omega) (by omega) ?_
      simp (disch := omega) only [↓EVi, ↓EVc, ↓ft_X7_swap, ↓reduceIte, ↓EV_obs, ↓EV_obn, ↓EV_ais, ↓EV_ain, ↓EV_ob h0, mdF, mRun, List.mem_cons, List.not_mem_nil, or_false, mtab_eq, Nat.reduceEqDiff, Nat.zero_add, hd1, ke, kg, pk, pm, b02, b12, b20, mset2, b10, b00, not_true_eq_false, not_false_eq_true, true_implies, false_implies, implies_true, and_true, true_and, Nat.le_refl, true_or, or_true, eq_self, List.length_cons, List.length_nil, Nat.reduceAdd, Nat.reduceLT, Nat.reduceLeDiff]
      refine m_adds ?_
      simp (disch := omega) only [↓EVi, ↓EVc, ↓ft_X7_swap, ↓reduceIte, ↓EV_obs, ↓EV_obn, ↓EV_ais, ↓EV_ain, ↓EV_ob h0, mdF, mRun, List.mem_cons, List.not_mem_nil, or_false, mtab_eq, Nat.reduceEqDiff, Nat.zero_add, hd1, ke, kg, pk, pm, b02, b12, b20, mset2, b10, b00, not_true_eq_false, not_false_eq_true, true_implies, false_implies, implies_true, and_true, true_and, Nat.le_refl, true_or, or_true, eq_self, List.length_cons, List.length_nil, Nat.reduceAdd, Nat.reduceLT, Nat.reduceLeDiff]
      refine ⟨fun y3 => ?_, fun y3 => ?_⟩
      case refine_2 =>
        rw [pl0, aRepl_full (fun z => y3 (x3.mpr (vi.mp z)))] at hp
        exact hp h ⟨v, a, hM, hL⟩ mKeep_rfl
      have vv := vi.mpr (x3.mp y3)
      rw [pl0, aRepl_some vv] at hp
      refine n_zero (by omega) hI hM hL hf (by omega) (fun h1 v1 a1 hM1 hL1 hN1 hk1 => ?_)
      simp (disch := omega) only [↓EVi, ↓EVc, ↓ft_X7_swap, ↓reduceIte, ↓EV_obs, ↓EV_obn, ↓EV_ais, ↓EV_ain, ↓EV_ob hM1.1, mdF, mRun, List.mem_cons, List.not_mem_nil, or_false, mtab_eq, Nat.reduceEqDiff, Nat.zero_add, hd1, ke, kg, pk, pm, b02, b12, b20, mset2, b10, b00, not_true_eq_false, not_false_eq_true, true_implies, false_implies, implies_true, and_true, true_and, Nat.le_refl, true_or, or_true, eq_self, List.length_cons, List.length_nil, Nat.reduceAdd, Nat.reduceLT, Nat.reduceLeDiff]
      refine n_put (k := 0) hM1 hL1 hN1 (by simp only [List.length_append, List.length_take, List.length_cons, List.length_nil]; omega) rfl rfl (fun h2 v2 a2 hM2 hL2 hN2 hk2 => ?_)
      simp (disch := omega) only [↓EVi, ↓EVc, ↓ft_X7_swap, ↓reduceIte, ↓EV_obs, ↓EV_obn, ↓EV_ais, ↓EV_ain, ↓EV_ob hM2.1, mdF, mRun, List.mem_cons, List.not_mem_nil, or_false, mtab_eq, Nat.reduceEqDiff, Nat.zero_add, hd1, ke, kg, pk, pm, b02, b12, b20, mset2, b10, b00, not_true_eq_false, not_false_eq_true, true_implies, false_implies, implies_true, and_true, true_and, Nat.le_refl, true_or, or_true, eq_self, List.length_cons, List.length_nil, Nat.reduceAdd, Nat.reduceLT, Nat.reduceLeDiff]
      refine m_adds ?_
      simp (disch := omega) only [↓EVi, ↓EVc, ↓ft_X7_swap, ↓reduceIte, ↓EV_obs, ↓EV_obn, ↓EV_ais, ↓EV_ain, ↓EV_ob hM2.1, mdF, mRun, List.mem_cons, List.not_mem_nil, or_false, mtab_eq, Nat.reduceEqDiff, Nat.zero_add, hd1, ke, kg, pk, pm, b02, b12, b20, mset2, b10, b00, not_true_eq_false, not_false_eq_true, true_implies, false_implies, implies_true, and_true, true_and, Nat.le_refl, true_or, or_true, eq_self, List.length_cons, List.length_nil, Nat.reduceAdd, Nat.reduceLT, Nat.reduceLeDiff]
      refine n_put (k := 0) (p := evP (S.1.getD f []) i + 2) hM2 hL2 hN2 (by simp only [List.length_append, List.length_take, List.length_cons, List.length_nil]; omega) rfl (by simp (disch := omega) only [z_nI, z_lit, z_neg, z_add, z_sub, z_mul, z_lt, z_le, z_eq, z_in, z_cl]; omega) (fun h3 v3 a3 hM3 hL3 hN3 hk3 => ?_)
      simp (disch := omega) only [↓EVi, ↓EVc, ↓ft_X7_swap, ↓reduceIte, ↓EV_obs, ↓EV_obn, ↓EV_ais, ↓EV_ain, ↓EV_ob hM3.1, mdF, mRun, List.mem_cons, List.not_mem_nil, or_false, mtab_eq, Nat.reduceEqDiff, Nat.zero_add, hd1, ke, kg, pk, pm, b02, b12, b20, mset2, b10, b00, not_true_eq_false, not_false_eq_true, true_implies, false_implies, implies_true, and_true, true_and, Nat.le_refl, true_or, or_true, eq_self, List.length_cons, List.length_nil, Nat.reduceAdd, Nat.reduceLT, Nat.reduceLeDiff]
      refine n_rest (j := i + 2) (by omega) hI hM3 hL3 hN3 hf (nI_add i 2) (by omega) ?_ (fun h9 hR9 hk9 => ?_)
      · have := (vld_bd vv).1
        simp only [repl, List.length_append, List.length_take, List.length_drop, List.length_cons, List.length_nil] at this ⊢
        omega
      simp (disch := omega) only [↓EVi, ↓EVc, ↓ft_X7_swap, ↓reduceIte, ↓EV_obs, ↓EV_obn, ↓EV_ais, ↓EV_ain, mdF, mRun, List.mem_cons, List.not_mem_nil, or_false, mtab_eq, Nat.reduceEqDiff, Nat.zero_add, hd1, mset2, b10, b00, not_true_eq_false, not_false_eq_true, true_implies, false_implies, implies_true, and_true, true_and, Nat.le_refl, true_or, or_true, eq_self, List.length_cons, List.length_nil, Nat.reduceAdd, Nat.reduceLT, Nat.reduceLeDiff]
      have key := hp h9 (by simpa only [repl, List.append_assoc, List.cons_append, List.nil_append, List.append_nil] using hR9) (mKeep_trans (mKeep_trans (mKeep_trans hk1 hk2) hk3) hk9)
      simpa only [repl, List.append_assoc, List.cons_append, List.nil_append, List.append_nil] using key
    · rw [pl0, if_neg (fun z => x1.mp y1 (by omega)), if_neg (fun z => y2 (x2.mpr (by omega)))]
    · have z1 : evP (S.1.getD f []) i + 2 ≤ evP (S.1.getD f []) (i + 1) := Classical.not_not.mp (fun z => y1 (x1.mpr z))
      rw [if_pos (by omega)] at pl0
      obtain ⟨gg, vi⟩ := sw _ _ pl0
      refine m_ahead (by omega) hM hs hw.1 (by omega) (by omega) ?_
      simp (disch := omega) only [↓EVi, ↓EVc, ↓ft_X7_swap, ↓reduceIte, ↓EV_obs, ↓EV_obn, ↓EV_ais, ↓EV_ain, ↓EV_ob h0, mdF, mRun, List.mem_cons, List.not_mem_nil, or_false, mtab_eq, Nat.reduceEqDiff, Nat.zero_add, hd1, ke, kg, pk, pm, b02, b12, b20, mset2, b10, b00, not_true_eq_false, not_false_eq_true, true_implies, false_implies, implies_true, and_true, true_and, Nat.le_refl, true_or, or_true, eq_self, List.length_cons, List.length_nil, Nat.reduceAdd, Nat.reduceLT, Nat.reduceLeDiff]
      refine m_adds ?_
      simp (disch := omega) only [↓EVi, ↓EVc, ↓ft_X7_swap, ↓reduceIte, ↓EV_obs, ↓EV_obn, ↓EV_ais, ↓EV_ain, ↓EV_ob h0, mdF, mRun, List.mem_cons, List.not_mem_nil, or_false, mtab_eq, Nat.reduceEqDiff, Nat.zero_add, hd1, ke, kg, pk, pm, b02, b12, b20, mset2, b10, b00, not_true_eq_false, not_false_eq_true, true_implies, false_implies, implies_true, and_true, true_and, Nat.le_refl, true_or, or_true, eq_self, List.length_cons, List.length_nil, Nat.reduceAdd, Nat.reduceLT, Nat.reduceLeDiff]
      refine ⟨fun y3 => ?_, fun y3 => ?_⟩
      case refine_2 =>
        rw [pl0, aRepl_full (fun z => y3 (x3.mpr (vi.mp z)))] at hp
        exact hp h ⟨v, a, hM, hL⟩ mKeep_rfl
      have vv := vi.mpr (x3.mp y3)
      rw [pl0, aRepl_some vv] at hp
      refine n_zero (by omega) hI hM hL hf (by omega) (fun h1 v1 a1 hM1 hL1 hN1 hk1 => ?_)
      simp (disch := omega) only [↓EVi, ↓EVc, ↓ft_X7_swap, ↓reduceIte, ↓EV_obs, ↓EV_obn, ↓EV_ais, ↓EV_ain, ↓EV_ob hM1.1, mdF, mRun, List.mem_cons, List.not_mem_nil, or_false, mtab_eq, Nat.reduceEqDiff, Nat.zero_add, hd1, ke, kg, pk, pm, b02, b12, b20, mset2, b10, b00, not_true_eq_false, not_false_eq_true, true_implies, false_implies, implies_true, and_true, true_and, Nat.le_refl, true_or, or_true, eq_self, List.length_cons, List.length_nil, Nat.reduceAdd, Nat.reduceLT, Nat.reduceLeDiff]
      refine m_adds ?_
      simp (disch := omega) only [↓EVi, ↓EVc, ↓ft_X7_swap, ↓reduceIte, ↓EV_obs, ↓EV_obn, ↓EV_ais, ↓EV_ain, ↓EV_ob hM1.1, mdF, mRun, List.mem_cons, List.not_mem_nil, or_false, mtab_eq, Nat.reduceEqDiff, Nat.zero_add, hd1, ke, kg, pk, pm, b02, b12, b20, mset2, b10, b00, not_true_eq_false, not_false_eq_true, true_implies, false_implies, implies_true, and_true, true_and, Nat.le_refl, true_or, or_true, eq_self, List.length_cons, List.length_nil, Nat.reduceAdd, Nat.reduceLT, Nat.reduceLeDiff]
      refine n_put (k := 0) (p := evP (S.1.getD f []) (i + 1) - 2) hM1 hL1 hN1 (by simp only [List.length_append, List.length_take, List.length_cons, List.length_nil]; omega) rfl (by simp (disch := omega) only [z_nI, z_lit, z_neg, z_add, z_sub, z_mul, z_lt, z_le, z_eq, z_in, z_cl]; omega) (fun h2 v2 a2 hM2 hL2 hN2 hk2 => ?_)
      simp (disch := omega) only [↓EVi, ↓EVc, ↓ft_X7_swap, ↓reduceIte, ↓EV_obs, ↓EV_obn, ↓EV_ais, ↓EV_ain, ↓EV_ob hM2.1, mdF, mRun, List.mem_cons, List.not_mem_nil, or_false, mtab_eq, Nat.reduceEqDiff, Nat.zero_add, hd1, ke, kg, pk, pm, b02, b12, b20, mset2, b10, b00, not_true_eq_false, not_false_eq_true, true_implies, false_implies, implies_true, and_true, true_and, Nat.le_refl, true_or, or_true, eq_self, List.length_cons, List.length_nil, Nat.reduceAdd, Nat.reduceLT, Nat.reduceLeDiff]
      refine n_put (k := 0) hM2 hL2 hN2 (by simp only [List.length_append, List.length_take, List.length_cons, List.length_nil]; omega) rfl rfl (fun h3 v3 a3 hM3 hL3 hN3 hk3 => ?_)
      simp (disch := omega) only [↓EVi, ↓EVc, ↓ft_X7_swap, ↓reduceIte, ↓EV_obs, ↓EV_obn, ↓EV_ais, ↓EV_ain, ↓EV_ob hM3.1, mdF, mRun, List.mem_cons, List.not_mem_nil, or_false, mtab_eq, Nat.reduceEqDiff, Nat.zero_add, hd1, ke, kg, pk, pm, b02, b12, b20, mset2, b10, b00, not_true_eq_false, not_false_eq_true, true_implies, false_implies, implies_true, and_true, true_and, Nat.le_refl, true_or, or_true, eq_self, List.length_cons, List.length_nil, Nat.reduceAdd, Nat.reduceLT, Nat.reduceLeDiff]
      refine n_rest (j := i + 2) (by omega) hI hM3 hL3 hN3 hf (nI_add i 2) (by omega) ?_ (fun h9 hR9 hk9 => ?_)
      · have := (vld_bd vv).1
        simp only [repl, List.length_append, List.length_take, List.length_drop, List.length_cons, List.length_nil] at this ⊢
        omega
      simp (disch := omega) only [↓EVi, ↓EVc, ↓ft_X7_swap, ↓reduceIte, ↓EV_obs, ↓EV_obn, ↓EV_ais, ↓EV_ain, mdF, mRun, List.mem_cons, List.not_mem_nil, or_false, mtab_eq, Nat.reduceEqDiff, Nat.zero_add, hd1, mset2, b10, b00, not_true_eq_false, not_false_eq_true, true_implies, false_implies, implies_true, and_true, true_and, Nat.le_refl, true_or, or_true, eq_self, List.length_cons, List.length_nil, Nat.reduceAdd, Nat.reduceLT, Nat.reduceLeDiff]
      have key := hp h9 (by simpa only [repl, List.append_assoc, List.cons_append, List.nil_append, List.append_nil] using hR9) (mKeep_trans (mKeep_trans (mKeep_trans hk1 hk2) hk3) hk9)
      simpa only [repl, List.append_assoc, List.cons_append, List.nil_append, List.append_nil] using key
  · have ke : kA (S.1.getD f []) i = 0 := by unfold kA; rw [if_pos hi, he]; rfl
    have kg : kA (S.1.getD f []) (i + 1) = 1 := by unfold kA; rw [if_pos hl, hg]; rfl
    rw [he, hg] at pl0
    simp only [subA, stp] at pl0
    simp only [↓reduceIte, Nat.reduceEqDiff, Nat.add_zero] at pl0
    rw [hg] at sw
    refine c_kindAt hM hs (by omega) b.1 (by omega) ?_
    simp (disch := omega) only [↓EVi, ↓EVc, ↓ft_X7_swap, ↓reduceIte, ↓EV_obs, ↓EV_obn, ↓EV_ais, ↓EV_ain, ↓EV_ob h0, mdF, mRun, List.mem_cons, List.not_mem_nil, or_false, mtab_eq, Nat.reduceEqDiff, Nat.zero_add, hd1, ke, kg, pk, pm, b02, b12, b20, mset2, b10, b00, not_true_eq_false, not_false_eq_true, true_implies, false_implies, implies_true, and_true, true_and, Nat.le_refl, true_or, or_true, eq_self, List.length_cons, List.length_nil, Nat.reduceAdd, Nat.reduceLT, Nat.reduceLeDiff]
    rw [nI_1]
    refine c_kindAt hM hs (by omega) b.1 (by omega) ?_
    simp (disch := omega) only [↓EVi, ↓EVc, ↓ft_X7_swap, ↓reduceIte, ↓EV_obs, ↓EV_obn, ↓EV_ais, ↓EV_ain, ↓EV_ob h0, mdF, mRun, List.mem_cons, List.not_mem_nil, or_false, mtab_eq, Nat.reduceEqDiff, Nat.zero_add, hd1, ke, kg, pk, pm, b02, b12, b20, mset2, b10, b00, not_true_eq_false, not_false_eq_true, true_implies, false_implies, implies_true, and_true, true_and, Nat.le_refl, true_or, or_true, eq_self, List.length_cons, List.length_nil, Nat.reduceAdd, Nat.reduceLT, Nat.reduceLeDiff]
    refine c_numberAt hM hs (by omega) b.1 (by omega) ?_
    simp (disch := omega) only [↓EVi, ↓EVc, ↓ft_X7_swap, ↓reduceIte, ↓EV_obs, ↓EV_obn, ↓EV_ais, ↓EV_ain, ↓EV_ob h0, mdF, mRun, List.mem_cons, List.not_mem_nil, or_false, mtab_eq, Nat.reduceEqDiff, Nat.zero_add, hd1, ke, kg, pk, pm, b02, b12, b20, mset2, b10, b00, not_true_eq_false, not_false_eq_true, true_implies, false_implies, implies_true, and_true, true_and, Nat.le_refl, true_or, or_true, eq_self, List.length_cons, List.length_nil, Nat.reduceAdd, Nat.reduceLT, Nat.reduceLeDiff]
    rw [nI_1]
    refine c_numberAt hM hs (by omega) b.1 (by omega) ?_
    simp (disch := omega) only [↓EVi, ↓EVc, ↓ft_X7_swap, ↓reduceIte, ↓EV_obs, ↓EV_obn, ↓EV_ais, ↓EV_ain, ↓EV_ob h0, mdF, mRun, List.mem_cons, List.not_mem_nil, or_false, mtab_eq, Nat.reduceEqDiff, Nat.zero_add, hd1, ke, kg, pk, pm, b02, b12, b20, mset2, b10, b00, not_true_eq_false, not_false_eq_true, true_implies, false_implies, implies_true, and_true, true_and, Nat.le_refl, true_or, or_true, eq_self, List.length_cons, List.length_nil, Nat.reduceAdd, Nat.reduceLT, Nat.reduceLeDiff]
    have x1 : (nI (evP (S.1.getD f []) (i + 1)) < nI (evP (S.1.getD f []) i) + 2) ↔ ¬ evP (S.1.getD f []) i + 2 ≤ evP (S.1.getD f []) (i + 1) := by simp (disch := omega) only [z_nI, z_lit, z_neg, z_add, z_sub, z_mul, z_lt, z_le, z_eq, z_in, z_cl]; omega
    have x2 : (nI (evP (S.1.getD f []) (i + 1)) + 2 ≤ nI (evP (S.1.getD f []) i)) ↔ evP (S.1.getD f []) (i + 1) + 2 ≤ evP (S.1.getD f []) i := by simp (disch := omega) only [z_nI, z_lit, z_neg, z_add, z_sub, z_mul, z_lt, z_le, z_eq, z_in, z_cl]; omega
    have x3 : (nI (ahL ((S.1.getD f []).take i)) + 0 ≤ 10) ↔ ((1 : Nat) = 0 → ahL ((S.1.getD f []).take i) + 2 ≤ 10) := by simp (disch := omega) only [z_nI, z_lit, z_neg, z_add, z_sub, z_mul, z_lt, z_le, z_eq, z_in, z_cl]; exact ⟨fun _ z => absurd z (by decide), fun _ => by omega⟩
    refine ⟨fun y1 => ⟨fun y2 => ?_, fun y2 => none_ ?_⟩, fun y1 => ?_⟩
    · rw [if_neg (fun z => x1.mp y1 (by omega)), if_pos (by have := x2.mp y2; omega)] at pl0
      have z2 := x2.mp y2
      obtain ⟨gg, vi⟩ := sw _ _ pl0
      refine m_ahead (by omega) hM hs hw.1 (by omega) (by omega) ?_
      simp (disch := omega) only [↓EVi, ↓EVc, ↓ft_X7_swap, ↓reduceIte, ↓EV_obs, ↓EV_obn, ↓EV_ais, ↓EV_ain, ↓EV_ob h0, mdF, mRun, List.mem_cons, List.not_mem_nil, or_false, mtab_eq, Nat.reduceEqDiff, Nat.zero_add, hd1, ke, kg, pk, pm, b02, b12, b20, mset2, b10, b00, not_true_eq_false, not_false_eq_true, true_implies, false_implies, implies_true, and_true, true_and, Nat.le_refl, true_or, or_true, eq_self, List.length_cons, List.length_nil, Nat.reduceAdd, Nat.reduceLT, Nat.reduceLeDiff]
      refine m_adds ?_
      simp (disch := omega) only [↓EVi, ↓EVc, ↓ft_X7_swap, ↓reduceIte, ↓EV_obs, ↓EV_obn, ↓EV_ais, ↓EV_ain, ↓EV_ob h0, mdF, mRun, List.mem_cons, List.not_mem_nil, or_false, mtab_eq, Nat.reduceEqDiff, Nat.zero_add, hd1, ke, kg, pk, pm, b02, b12, b20, mset2, b10, b00, not_true_eq_false, not_false_eq_true, true_implies, false_implies, implies_true, and_true, true_and, Nat.le_refl, true_or, or_true, eq_self, List.length_cons, List.length_nil, Nat.reduceAdd, Nat.reduceLT, Nat.reduceLeDiff]
      refine ⟨fun y3 => ?_, fun y3 => ?_⟩
      case refine_2 =>
        rw [pl0, aRepl_full (fun z => y3 (x3.mpr (vi.mp z)))] at hp
        exact hp h ⟨v, a, hM, hL⟩ mKeep_rfl
      have vv := vi.mpr (x3.mp y3)
      rw [pl0, aRepl_some vv] at hp
      refine n_zero (by omega) hI hM hL hf (by omega) (fun h1 v1 a1 hM1 hL1 hN1 hk1 => ?_)
      simp (disch := omega) only [↓EVi, ↓EVc, ↓ft_X7_swap, ↓reduceIte, ↓EV_obs, ↓EV_obn, ↓EV_ais, ↓EV_ain, ↓EV_ob hM1.1, mdF, mRun, List.mem_cons, List.not_mem_nil, or_false, mtab_eq, Nat.reduceEqDiff, Nat.zero_add, hd1, ke, kg, pk, pm, b02, b12, b20, mset2, b10, b00, not_true_eq_false, not_false_eq_true, true_implies, false_implies, implies_true, and_true, true_and, Nat.le_refl, true_or, or_true, eq_self, List.length_cons, List.length_nil, Nat.reduceAdd, Nat.reduceLT, Nat.reduceLeDiff]
      refine n_put (k := 1) hM1 hL1 hN1 (by simp only [List.length_append, List.length_take, List.length_cons, List.length_nil]; omega) rfl rfl (fun h2 v2 a2 hM2 hL2 hN2 hk2 => ?_)
      simp (disch := omega) only [↓EVi, ↓EVc, ↓ft_X7_swap, ↓reduceIte, ↓EV_obs, ↓EV_obn, ↓EV_ais, ↓EV_ain, ↓EV_ob hM2.1, mdF, mRun, List.mem_cons, List.not_mem_nil, or_false, mtab_eq, Nat.reduceEqDiff, Nat.zero_add, hd1, ke, kg, pk, pm, b02, b12, b20, mset2, b10, b00, not_true_eq_false, not_false_eq_true, true_implies, false_implies, implies_true, and_true, true_and, Nat.le_refl, true_or, or_true, eq_self, List.length_cons, List.length_nil, Nat.reduceAdd, Nat.reduceLT, Nat.reduceLeDiff]
      refine m_adds ?_
      simp (disch := omega) only [↓EVi, ↓EVc, ↓ft_X7_swap, ↓reduceIte, ↓EV_obs, ↓EV_obn, ↓EV_ais, ↓EV_ain, ↓EV_ob hM2.1, mdF, mRun, List.mem_cons, List.not_mem_nil, or_false, mtab_eq, Nat.reduceEqDiff, Nat.zero_add, hd1, ke, kg, pk, pm, b02, b12, b20, mset2, b10, b00, not_true_eq_false, not_false_eq_true, true_implies, false_implies, implies_true, and_true, true_and, Nat.le_refl, true_or, or_true, eq_self, List.length_cons, List.length_nil, Nat.reduceAdd, Nat.reduceLT, Nat.reduceLeDiff]
      refine n_put (k := 0) (p := evP (S.1.getD f []) i) hM2 hL2 hN2 (by simp only [List.length_append, List.length_take, List.length_cons, List.length_nil]; omega) rfl (by simp (disch := omega) only [z_nI, z_lit, z_neg, z_add, z_sub, z_mul, z_lt, z_le, z_eq, z_in, z_cl]; omega) (fun h3 v3 a3 hM3 hL3 hN3 hk3 => ?_)
      simp (disch := omega) only [↓EVi, ↓EVc, ↓ft_X7_swap, ↓reduceIte, ↓EV_obs, ↓EV_obn, ↓EV_ais, ↓EV_ain, ↓EV_ob hM3.1, mdF, mRun, List.mem_cons, List.not_mem_nil, or_false, mtab_eq, Nat.reduceEqDiff, Nat.zero_add, hd1, ke, kg, pk, pm, b02, b12, b20, mset2, b10, b00, not_true_eq_false, not_false_eq_true, true_implies, false_implies, implies_true, and_true, true_and, Nat.le_refl, true_or, or_true, eq_self, List.length_cons, List.length_nil, Nat.reduceAdd, Nat.reduceLT, Nat.reduceLeDiff]
      refine n_rest (j := i + 2) (by omega) hI hM3 hL3 hN3 hf (nI_add i 2) (by omega) ?_ (fun h9 hR9 hk9 => ?_)
      · have := (vld_bd vv).1
        simp only [repl, List.length_append, List.length_take, List.length_drop, List.length_cons, List.length_nil] at this ⊢
        omega
      simp (disch := omega) only [↓EVi, ↓EVc, ↓ft_X7_swap, ↓reduceIte, ↓EV_obs, ↓EV_obn, ↓EV_ais, ↓EV_ain, mdF, mRun, List.mem_cons, List.not_mem_nil, or_false, mtab_eq, Nat.reduceEqDiff, Nat.zero_add, hd1, mset2, b10, b00, not_true_eq_false, not_false_eq_true, true_implies, false_implies, implies_true, and_true, true_and, Nat.le_refl, true_or, or_true, eq_self, List.length_cons, List.length_nil, Nat.reduceAdd, Nat.reduceLT, Nat.reduceLeDiff]
      have key := hp h9 (by simpa only [repl, List.append_assoc, List.cons_append, List.nil_append, List.append_nil] using hR9) (mKeep_trans (mKeep_trans (mKeep_trans hk1 hk2) hk3) hk9)
      simpa only [repl, List.append_assoc, List.cons_append, List.nil_append, List.append_nil] using key
    · rw [pl0, if_neg (fun z => x1.mp y1 (by omega)), if_neg (fun z => y2 (x2.mpr (by omega)))]
    · have z1 : evP (S.1.getD f []) i + 2 ≤ evP (S.1.getD f []) (i + 1) := Classical.not_not.mp (fun z => y1 (x1.mpr z))
      rw [if_pos (by omega)] at pl0
      obtain ⟨gg, vi⟩ := sw _ _ pl0
      refine m_ahead (by omega) hM hs hw.1 (by omega) (by omega) ?_
      simp (disch := omega) only [↓EVi, ↓EVc, ↓ft_X7_swap, ↓reduceIte, ↓EV_obs, ↓EV_obn, ↓EV_ais, ↓EV_ain, ↓EV_ob h0, mdF, mRun, List.mem_cons, List.not_mem_nil, or_false, mtab_eq, Nat.reduceEqDiff, Nat.zero_add, hd1, ke, kg, pk, pm, b02, b12, b20, mset2, b10, b00, not_true_eq_false, not_false_eq_true, true_implies, false_implies, implies_true, and_true, true_and, Nat.le_refl, true_or, or_true, eq_self, List.length_cons, List.length_nil, Nat.reduceAdd, Nat.reduceLT, Nat.reduceLeDiff]
      refine m_adds ?_
      simp (disch := omega) only [↓EVi, ↓EVc, ↓ft_X7_swap, ↓reduceIte, ↓EV_obs, ↓EV_obn, ↓EV_ais, ↓EV_ain, ↓EV_ob h0, mdF, mRun, List.mem_cons, List.not_mem_nil, or_false, mtab_eq, Nat.reduceEqDiff, Nat.zero_add, hd1, ke, kg, pk, pm, b02, b12, b20, mset2, b10, b00, not_true_eq_false, not_false_eq_true, true_implies, false_implies, implies_true, and_true, true_and, Nat.le_refl, true_or, or_true, eq_self, List.length_cons, List.length_nil, Nat.reduceAdd, Nat.reduceLT, Nat.reduceLeDiff]
      refine ⟨fun y3 => ?_, fun y3 => ?_⟩
      case refine_2 =>
        rw [pl0, aRepl_full (fun z => y3 (x3.mpr (vi.mp z)))] at hp
        exact hp h ⟨v, a, hM, hL⟩ mKeep_rfl
      have vv := vi.mpr (x3.mp y3)
      rw [pl0, aRepl_some vv] at hp
      refine n_zero (by omega) hI hM hL hf (by omega) (fun h1 v1 a1 hM1 hL1 hN1 hk1 => ?_)
      simp (disch := omega) only [↓EVi, ↓EVc, ↓ft_X7_swap, ↓reduceIte, ↓EV_obs, ↓EV_obn, ↓EV_ais, ↓EV_ain, ↓EV_ob hM1.1, mdF, mRun, List.mem_cons, List.not_mem_nil, or_false, mtab_eq, Nat.reduceEqDiff, Nat.zero_add, hd1, ke, kg, pk, pm, b02, b12, b20, mset2, b10, b00, not_true_eq_false, not_false_eq_true, true_implies, false_implies, implies_true, and_true, true_and, Nat.le_refl, true_or, or_true, eq_self, List.length_cons, List.length_nil, Nat.reduceAdd, Nat.reduceLT, Nat.reduceLeDiff]
      refine m_adds ?_
      simp (disch := omega) only [↓EVi, ↓EVc, ↓ft_X7_swap, ↓reduceIte, ↓EV_obs, ↓EV_obn, ↓EV_ais, ↓EV_ain, ↓EV_ob hM1.1, mdF, mRun, List.mem_cons, List.not_mem_nil, or_false, mtab_eq, Nat.reduceEqDiff, Nat.zero_add, hd1, ke, kg, pk, pm, b02, b12, b20, mset2, b10, b00, not_true_eq_false, not_false_eq_true, true_implies, false_implies, implies_true, and_true, true_and, Nat.le_refl, true_or, or_true, eq_self, List.length_cons, List.length_nil, Nat.reduceAdd, Nat.reduceLT, Nat.reduceLeDiff]
      refine n_put (k := 1) (p := evP (S.1.getD f []) (i + 1) - 2) hM1 hL1 hN1 (by simp only [List.length_append, List.length_take, List.length_cons, List.length_nil]; omega) rfl (by simp (disch := omega) only [z_nI, z_lit, z_neg, z_add, z_sub, z_mul, z_lt, z_le, z_eq, z_in, z_cl]; omega) (fun h2 v2 a2 hM2 hL2 hN2 hk2 => ?_)
      simp (disch := omega) only [↓EVi, ↓EVc, ↓ft_X7_swap, ↓reduceIte, ↓EV_obs, ↓EV_obn, ↓EV_ais, ↓EV_ain, ↓EV_ob hM2.1, mdF, mRun, List.mem_cons, List.not_mem_nil, or_false, mtab_eq, Nat.reduceEqDiff, Nat.zero_add, hd1, ke, kg, pk, pm, b02, b12, b20, mset2, b10, b00, not_true_eq_false, not_false_eq_true, true_implies, false_implies, implies_true, and_true, true_and, Nat.le_refl, true_or, or_true, eq_self, List.length_cons, List.length_nil, Nat.reduceAdd, Nat.reduceLT, Nat.reduceLeDiff]
      refine n_put (k := 0) hM2 hL2 hN2 (by simp only [List.length_append, List.length_take, List.length_cons, List.length_nil]; omega) rfl rfl (fun h3 v3 a3 hM3 hL3 hN3 hk3 => ?_)
      simp (disch := omega) only [↓EVi, ↓EVc, ↓ft_X7_swap, ↓reduceIte, ↓EV_obs, ↓EV_obn, ↓EV_ais, ↓EV_ain, ↓EV_ob hM3.1, mdF, mRun, List.mem_cons, List.not_mem_nil, or_false, mtab_eq, Nat.reduceEqDiff, Nat.zero_add, hd1, ke, kg, pk, pm, b02, b12, b20, mset2, b10, b00, not_true_eq_false, not_false_eq_true, true_implies, false_implies, implies_true, and_true, true_and, Nat.le_refl, true_or, or_true, eq_self, List.length_cons, List.length_nil, Nat.reduceAdd, Nat.reduceLT, Nat.reduceLeDiff]
      refine n_rest (j := i + 2) (by omega) hI hM3 hL3 hN3 hf (nI_add i 2) (by omega) ?_ (fun h9 hR9 hk9 => ?_)
      · have := (vld_bd vv).1
        simp only [repl, List.length_append, List.length_take, List.length_drop, List.length_cons, List.length_nil] at this ⊢
        omega
      simp (disch := omega) only [↓EVi, ↓EVc, ↓ft_X7_swap, ↓reduceIte, ↓EV_obs, ↓EV_obn, ↓EV_ais, ↓EV_ain, mdF, mRun, List.mem_cons, List.not_mem_nil, or_false, mtab_eq, Nat.reduceEqDiff, Nat.zero_add, hd1, mset2, b10, b00, not_true_eq_false, not_false_eq_true, true_implies, false_implies, implies_true, and_true, true_and, Nat.le_refl, true_or, or_true, eq_self, List.length_cons, List.length_nil, Nat.reduceAdd, Nat.reduceLT, Nat.reduceLeDiff]
      have key := hp h9 (by simpa only [repl, List.append_assoc, List.cons_append, List.nil_append, List.append_nil] using hR9) (mKeep_trans (mKeep_trans (mKeep_trans hk1 hk2) hk3) hk9)
      simpa only [repl, List.append_assoc, List.cons_append, List.nil_append, List.append_nil] using key
  · have ke : kA (S.1.getD f []) i = 0 := by unfold kA; rw [if_pos hi, he]; rfl
    have kg : kA (S.1.getD f []) (i + 1) = 2 := by unfold kA; rw [if_pos hl, hg]; rfl
    rw [he, hg] at pl0
    simp only [subA, stp] at pl0
    simp only [↓reduceIte, Nat.reduceEqDiff, Nat.add_zero] at pl0
    rw [hg] at sw
    refine c_kindAt hM hs (by omega) b.1 (by omega) ?_
    simp (disch := omega) only [↓EVi, ↓EVc, ↓ft_X7_swap, ↓reduceIte, ↓EV_obs, ↓EV_obn, ↓EV_ais, ↓EV_ain, ↓EV_ob h0, mdF, mRun, List.mem_cons, List.not_mem_nil, or_false, mtab_eq, Nat.reduceEqDiff, Nat.zero_add, hd1, ke, kg, pk, pm, b02, b12, b20, mset2, b10, b00, not_true_eq_false, not_false_eq_true, true_implies, false_implies, implies_true, and_true, true_and, Nat.le_refl, true_or, or_true, eq_self, List.length_cons, List.length_nil, Nat.reduceAdd, Nat.reduceLT, Nat.reduceLeDiff]
    rw [nI_1]
    refine c_kindAt hM hs (by omega) b.1 (by omega) ?_
    simp (disch := omega) only [↓EVi, ↓EVc, ↓ft_X7_swap, ↓reduceIte, ↓EV_obs, ↓EV_obn, ↓EV_ais, ↓EV_ain, ↓EV_ob h0, mdF, mRun, List.mem_cons, List.not_mem_nil, or_false, mtab_eq, Nat.reduceEqDiff, Nat.zero_add, hd1, ke, kg, pk, pm, b02, b12, b20, mset2, b10, b00, not_true_eq_false, not_false_eq_true, true_implies, false_implies, implies_true, and_true, true_and, Nat.le_refl, true_or, or_true, eq_self, List.length_cons, List.length_nil, Nat.reduceAdd, Nat.reduceLT, Nat.reduceLeDiff]
    refine c_numberAt hM hs (by omega) b.1 (by omega) ?_
    simp (disch := omega) only [↓EVi, ↓EVc, ↓ft_X7_swap, ↓reduceIte, ↓EV_obs, ↓EV_obn, ↓EV_ais, ↓EV_ain, ↓EV_ob h0, mdF, mRun, List.mem_cons, List.not_mem_nil, or_false, mtab_eq, Nat.reduceEqDiff, Nat.zero_add, hd1, ke, kg, pk, pm, b02, b12, b20, mset2, b10, b00, not_true_eq_false, not_false_eq_true, true_implies, false_implies, implies_true, and_true, true_and, Nat.le_refl, true_or, or_true, eq_self, List.length_cons, List.length_nil, Nat.reduceAdd, Nat.reduceLT, Nat.reduceLeDiff]
    rw [nI_1]
    refine c_numberAt hM hs (by omega) b.1 (by omega) ?_
    simp (disch := omega) only [↓EVi, ↓EVc, ↓ft_X7_swap, ↓reduceIte, ↓EV_obs, ↓EV_obn, ↓EV_ais, ↓EV_ain, ↓EV_ob h0, mdF, mRun, List.mem_cons, List.not_mem_nil, or_false, mtab_eq, Nat.reduceEqDiff, Nat.zero_add, hd1, ke, kg, pk, pm, b02, b12, b20, mset2, b10, b00, not_true_eq_false, not_false_eq_true, true_implies, false_implies, implies_true, and_true, true_and, Nat.le_refl, true_or, or_true, eq_self, List.length_cons, List.length_nil, Nat.reduceAdd, Nat.reduceLT, Nat.reduceLeDiff]
    have x1 : (nI (evP (S.1.getD f []) (i + 1)) < nI (evP (S.1.getD f []) i) + 2) ↔ ¬ evP (S.1.getD f []) i + 2 ≤ evP (S.1.getD f []) (i + 1) := by simp (disch := omega) only [z_nI, z_lit, z_neg, z_add, z_sub, z_mul, z_lt, z_le, z_eq, z_in, z_cl]; omega
    have x2 : (nI (evP (S.1.getD f []) (i + 1)) + 2 ≤ nI (evP (S.1.getD f []) i)) ↔ evP (S.1.getD f []) (i + 1) + 2 ≤ evP (S.1.getD f []) i := by simp (disch := omega) only [z_nI, z_lit, z_neg, z_add, z_sub, z_mul, z_lt, z_le, z_eq, z_in, z_cl]; omega
    have x3 : (nI (ahL ((S.1.getD f []).take i)) + -2 ≤ 10) ↔ ((2 : Nat) = 0 → ahL ((S.1.getD f []).take i) + 2 ≤ 10) := by simp (disch := omega) only [z_nI, z_lit, z_neg, z_add, z_sub, z_mul, z_lt, z_le, z_eq, z_in, z_cl]; exact ⟨fun _ z => absurd z (by decide), fun _ => by omega⟩
    refine ⟨fun y1 => ⟨fun y2 => ?_, fun y2 => none_ ?_⟩, fun y1 => ?_⟩
    · rw [if_neg (fun z => x1.mp y1 (by omega)), if_pos (by have := x2.mp y2; omega)] at pl0
      have z2 := x2.mp y2
      obtain ⟨gg, vi⟩ := sw _ _ pl0
      refine m_ahead (by omega) hM hs hw.1 (by omega) (by omega) ?_
      simp (disch := omega) only [↓EVi, ↓EVc, ↓ft_X7_swap, ↓reduceIte, ↓EV_obs, ↓EV_obn, ↓EV_ais, ↓EV_ain, ↓EV_ob h0, mdF, mRun, List.mem_cons, List.not_mem_nil, or_false, mtab_eq, Nat.reduceEqDiff, Nat.zero_add, hd1, ke, kg, pk, pm, b02, b12, b20, mset2, b10, b00, not_true_eq_false, not_false_eq_true, true_implies, false_implies, implies_true, and_true, true_and, Nat.le_refl, true_or, or_true, eq_self, List.length_cons, List.length_nil, Nat.reduceAdd, Nat.reduceLT, Nat.reduceLeDiff]
      refine m_adds ?_
      simp (disch := omega) only [↓EVi, ↓EVc, ↓ft_X7_swap, ↓reduceIte, ↓EV_obs, ↓EV_obn, ↓EV_ais, ↓EV_ain, ↓EV_ob h0, mdF, mRun, List.mem_cons, List.not_mem_nil, or_false, mtab_eq, Nat.reduceEqDiff, Nat.zero_add, hd1, ke, kg, pk, pm, b02, b12, b20, mset2, b10, b00, not_true_eq_false, not_false_eq_true, true_implies, false_implies, implies_true, and_true, true_and, Nat.le_refl, true_or, or_true, eq_self, List.length_cons, List.length_nil, Nat.reduceAdd, Nat.reduceLT, Nat.reduceLeDiff]
      refine ⟨fun y3 => ?_, fun y3 => ?_⟩
      case refine_2 =>
        rw [pl0, aRepl_full (fun z => y3 (x3.mpr (vi.mp z)))] at hp
        exact hp h ⟨v, a, hM, hL⟩ mKeep_rfl
      have vv := vi.mpr (x3.mp y3)
      rw [pl0, aRepl_some vv] at hp
      refine n_zero (by omega) hI hM hL hf (by omega) (fun h1 v1 a1 hM1 hL1 hN1 hk1 => ?_)
      simp (disch := omega) only [↓EVi, ↓EVc, ↓ft_X7_swap, ↓reduceIte, ↓EV_obs, ↓EV_obn, ↓EV_ais, ↓EV_ain, ↓EV_ob hM1.1, mdF, mRun, List.mem_cons, List.not_mem_nil, or_false, mtab_eq, Nat.reduceEqDiff, Nat.zero_add, hd1, ke, kg, pk, pm, b02, b12, b20, mset2, b10, b00, not_true_eq_false, not_false_eq_true, true_implies, false_implies, implies_true, and_true, true_and, Nat.le_refl, true_or, or_true, eq_self, List.length_cons, List.length_nil, Nat.reduceAdd, Nat.reduceLT, Nat.reduceLeDiff]
      refine n_put (k := 2) hM1 hL1 hN1 (by simp only [List.length_append, List.length_take, List.length_cons, List.length_nil]; omega) rfl rfl (fun h2 v2 a2 hM2 hL2 hN2 hk2 => ?_)
      simp (disch := omega) only [↓EVi, ↓EVc, ↓ft_X7_swap, ↓reduceIte, ↓EV_obs, ↓EV_obn, ↓EV_ais, ↓EV_ain, ↓EV_ob hM2.1, mdF, mRun, List.mem_cons, List.not_mem_nil, or_false, mtab_eq, Nat.reduceEqDiff, Nat.zero_add, hd1, ke, kg, pk, pm, b02, b12, b20, mset2, b10, b00, not_true_eq_false, not_false_eq_true, true_implies, false_implies, implies_true, and_true, true_and, Nat.le_refl, true_or, or_true, eq_self, List.length_cons, List.length_nil, Nat.reduceAdd, Nat.reduceLT, Nat.reduceLeDiff]
      refine m_adds ?_
      simp (disch := omega) only [↓EVi, ↓EVc, ↓ft_X7_swap, ↓reduceIte, ↓EV_obs, ↓EV_obn, ↓EV_ais, ↓EV_ain, ↓EV_ob hM2.1, mdF, mRun, List.mem_cons, List.not_mem_nil, or_false, mtab_eq, Nat.reduceEqDiff, Nat.zero_add, hd1, ke, kg, pk, pm, b02, b12, b20, mset2, b10, b00, not_true_eq_false, not_false_eq_true, true_implies, false_implies, implies_true, and_true, true_and, Nat.le_refl, true_or, or_true, eq_self, List.length_cons, List.length_nil, Nat.reduceAdd, Nat.reduceLT, Nat.reduceLeDiff]
      refine n_put (k := 0) (p := evP (S.1.getD f []) i - 2) hM2 hL2 hN2 (by simp only [List.length_append, List.length_take, List.length_cons, List.length_nil]; omega) rfl (by simp (disch := omega) only [z_nI, z_lit, z_neg, z_add, z_sub, z_mul, z_lt, z_le, z_eq, z_in, z_cl]; omega) (fun h3 v3 a3 hM3 hL3 hN3 hk3 => ?_)
      simp (disch := omega) only [↓EVi, ↓EVc, ↓ft_X7_swap, ↓reduceIte, ↓EV_obs, ↓EV_obn, ↓EV_ais, ↓EV_ain, ↓EV_ob hM3.1, mdF, mRun, List.mem_cons, List.not_mem_nil, or_false, mtab_eq, Nat.reduceEqDiff, Nat.zero_add, hd1, ke, kg, pk, pm, b02, b12, b20, mset2, b10, b00, not_true_eq_false, not_false_eq_true, true_implies, false_implies, implies_true, and_true, true_and, Nat.le_refl, true_or, or_true, eq_self, List.length_cons, List.length_nil, Nat.reduceAdd, Nat.reduceLT, Nat.reduceLeDiff]
      refine n_rest (j := i + 2) (by omega) hI hM3 hL3 hN3 hf (nI_add i 2) (by omega) ?_ (fun h9 hR9 hk9 => ?_)
      · have := (vld_bd vv).1
        simp only [repl, List.length_append, List.length_take, List.length_drop, List.length_cons, List.length_nil] at this ⊢
        omega
      simp (disch := omega) only [↓EVi, ↓EVc, ↓ft_X7_swap, ↓reduceIte, ↓EV_obs, ↓EV_obn, ↓EV_ais, ↓EV_ain, mdF, mRun, List.mem_cons, List.not_mem_nil, or_false, mtab_eq, Nat.reduceEqDiff, Nat.zero_add, hd1, mset2, b10, b00, not_true_eq_false, not_false_eq_true, true_implies, false_implies, implies_true, and_true, true_and, Nat.le_refl, true_or, or_true, eq_self, List.length_cons, List.length_nil, Nat.reduceAdd, Nat.reduceLT, Nat.reduceLeDiff]
      have key := hp h9 (by simpa only [repl, List.append_assoc, List.cons_append, List.nil_append, List.append_nil] using hR9) (mKeep_trans (mKeep_trans (mKeep_trans hk1 hk2) hk3) hk9)
      simpa only [repl, List.append_assoc, List.cons_append, List.nil_append, List.append_nil] using key
    · rw [pl0, if_neg (fun z => x1.mp y1 (by omega)), if_neg (fun z => y2 (x2.mpr (by omega)))]
    · have z1 : evP (S.1.getD f []) i + 2 ≤ evP (S.1.getD f []) (i + 1) := Classical.not_not.mp (fun z => y1 (x1.mpr z))
      rw [if_pos (by omega)] at pl0
      obtain ⟨gg, vi⟩ := sw _ _ pl0
      refine m_ahead (by omega) hM hs hw.1 (by omega) (by omega) ?_
      simp (disch := omega) only [↓EVi, ↓EVc, ↓ft_X7_swap, ↓reduceIte, ↓EV_obs, ↓EV_obn, ↓EV_ais, ↓EV_ain, ↓EV_ob h0, mdF, mRun, List.mem_cons, List.not_mem_nil, or_false, mtab_eq, Nat.reduceEqDiff, Nat.zero_add, hd1, ke, kg, pk, pm, b02, b12, b20, mset2, b10, b00, not_true_eq_false, not_false_eq_true, true_implies, false_implies, implies_true, and_true, true_and, Nat.le_refl, true_or, or_true, eq_self, List.length_cons, List.length_nil, Nat.reduceAdd, Nat.reduceLT, Nat.reduceLeDiff]
      refine m_adds ?_
      simp (disch := omega) only [↓EVi, ↓EVc, ↓ft_X7_swap, ↓reduceIte, ↓EV_obs, ↓EV_obn, ↓EV_ais, ↓EV_ain, ↓EV_ob h0, mdF, mRun, List.mem_cons, List.not_mem_nil, or_false, mtab_eq, Nat.reduceEqDiff, Nat.zero_add, hd1, ke, kg, pk, pm, b02, b12, b20, mset2, b10, b00, not_true_eq_false, not_false_eq_true, true_implies, false_implies, implies_true, and_true, true_and, Nat.le_refl, true_or, or_true, eq_self, List.length_cons, List.length_nil, Nat.reduceAdd, Nat.reduceLT, Nat.reduceLeDiff]
      refine ⟨fun y3 => ?_, fun y3 => ?_⟩
      case refine_2 =>
        rw [pl0, aRepl_full (fun z => y3 (x3.mpr (vi.mp z)))] at hp
        exact hp h ⟨v, a, hM, hL⟩ mKeep_rfl
      have vv := vi.mpr (x3.mp y3)
      rw [pl0, aRepl_some vv] at hp
      refine n_zero (by omega) hI hM hL hf (by omega) (fun h1 v1 a1 hM1 hL1 hN1 hk1 => ?_)
      simp (disch := omega) only [↓EVi, ↓EVc, ↓ft_X7_swap, ↓reduceIte, ↓EV_obs, ↓EV_obn, ↓EV_ais, ↓EV_ain, ↓EV_ob hM1.1, mdF, mRun, List.mem_cons, List.not_mem_nil, or_false, mtab_eq, Nat.reduceEqDiff, Nat.zero_add, hd1, ke, kg, pk, pm, b02, b12, b20, mset2, b10, b00, not_true_eq_false, not_false_eq_true, true_implies, false_implies, implies_true, and_true, true_and, Nat.le_refl, true_or, or_true, eq_self, List.length_cons, List.length_nil, Nat.reduceAdd, Nat.reduceLT, Nat.reduceLeDiff]
      refine m_adds ?_
      simp (disch := omega) only [↓EVi, ↓EVc, ↓ft_X7_swap, ↓reduceIte, ↓EV_obs, ↓EV_obn, ↓EV_ais, ↓EV_ain, ↓EV_ob hM1.1, mdF, mRun, List.mem_cons, List.not_mem_nil, or_false, mtab_eq, Nat.reduceEqDiff, Nat.zero_add, hd1, ke, kg, pk, pm, b02, b12, b20, mset2, b10, b00, not_true_eq_false, not_false_eq_true, true_implies, false_implies, implies_true, and_true, true_and, Nat.le_refl, true_or, or_true, eq_self, List.length_cons, List.length_nil, Nat.reduceAdd, Nat.reduceLT, Nat.reduceLeDiff]
      refine n_put (k := 2) (p := evP (S.1.getD f []) (i + 1) - 2) hM1 hL1 hN1 (by simp only [List.length_append, List.length_take, List.length_cons, List.length_nil]; omega) rfl (by simp (disch := omega) only [z_nI, z_lit, z_neg, z_add, z_sub, z_mul, z_lt, z_le, z_eq, z_in, z_cl]; omega) (fun h2 v2 a2 hM2 hL2 hN2 hk2 => ?_)
      simp (disch := omega) only [↓EVi, ↓EVc, ↓ft_X7_swap, ↓reduceIte, ↓EV_obs, ↓EV_obn, ↓EV_ais, ↓EV_ain, ↓EV_ob hM2.1, mdF, mRun, List.mem_cons, List.not_mem_nil, or_false, mtab_eq, Nat.reduceEqDiff, Nat.zero_add, hd1, ke, kg, pk, pm, b02, b12, b20, mset2, b10, b00, not_true_eq_false, not_false_eq_true, true_implies, false_implies, implies_true, and_true, true_and, Nat.le_refl, true_or, or_true, eq_self, List.length_cons, List.length_nil, Nat.reduceAdd, Nat.reduceLT, Nat.reduceLeDiff]
      refine n_put (k := 0) hM2 hL2 hN2 (by simp only [List.length_append, List.length_take, List.length_cons, List.length_nil]; omega) rfl rfl (fun h3 v3 a3 hM3 hL3 hN3 hk3 => ?_)
      simp (disch := omega) only [↓EVi, ↓EVc, ↓ft_X7_swap, ↓reduceIte, ↓EV_obs, ↓EV_obn, ↓EV_ais, ↓EV_ain, ↓EV_ob hM3.1, mdF, mRun, List.mem_cons, List.not_mem_nil, or_false, mtab_eq, Nat.reduceEqDiff, Nat.zero_add, hd1, ke, kg, pk, pm, b02, b12, b20, mset2, b10, b00, not_true_eq_false, not_false_eq_true, true_implies, false_implies, implies_true, and_true, true_and, Nat.le_refl, true_or, or_true, eq_self, List.length_cons, List.length_nil, Nat.reduceAdd, Nat.reduceLT, Nat.reduceLeDiff]
      refine n_rest (j := i + 2) (by omega) hI hM3 hL3 hN3 hf (nI_add i 2) (by omega) ?_ (fun h9 hR9 hk9 => ?_)
      · have := (vld_bd vv).1
        simp only [repl, List.length_append, List.length_take, List.length_drop, List.length_cons, List.length_nil] at this ⊢
        omega
      simp (disch := omega) only [↓EVi, ↓EVc, ↓ft_X7_swap, ↓reduceIte, ↓EV_obs, ↓EV_obn, ↓EV_ais, ↓EV_ain, mdF, mRun, List.mem_cons, List.not_mem_nil, or_false, mtab_eq, Nat.reduceEqDiff, Nat.zero_add, hd1, mset2, b10, b00, not_true_eq_false, not_false_eq_true, true_implies, false_implies, implies_true, and_true, true_and, Nat.le_refl, true_or, or_true, eq_self, List.length_cons, List.length_nil, Nat.reduceAdd, Nat.reduceLT, Nat.reduceLeDiff]
      have key := hp h9 (by simpa only [repl, List.append_assoc, List.cons_append, List.nil_append, List.append_nil] using hR9) (mKeep_trans (mKeep_trans (mKeep_trans hk1 hk2) hk3) hk9)
      simpa only [repl, List.append_assoc, List.cons_append, List.nil_append, List.append_nil] using key
  · have ke : kA (S.1.getD f []) i = 1 := by unfold kA; rw [if_pos hi, he]; rfl
    have kg : kA (S.1.getD f []) (i + 1) = 0 := by unfold kA; rw [if_pos hl, hg]; rfl
    rw [he, hg] at pl0
    simp only [subA, stp] at pl0
    simp only [↓reduceIte, Nat.reduceEqDiff, Nat.add_zero] at pl0
    rw [hg] at sw
    refine c_kindAt hM hs (by omega) b.1 (by omega) ?_
    simp (disch := omega) only [↓EVi, ↓EVc, ↓ft_X7_swap, ↓reduceIte, ↓EV_obs, ↓EV_obn, ↓EV_ais, ↓EV_ain, ↓EV_ob h0, mdF, mRun, List.mem_cons, List.not_mem_nil, or_false, mtab_eq, Nat.reduceEqDiff, Nat.zero_add, hd1, ke, kg, pk, pm, b02, b12, b20, mset2, b10, b00, not_true_eq_false, not_false_eq_true, true_implies, false_implies, implies_true, and_true, true_and, Nat.le_refl, true_or, or_true, eq_self, List.length_cons, List.length_nil, Nat.reduceAdd, Nat.reduceLT, Nat.reduceLeDiff]
    rw [nI_1]
    refine c_kindAt hM hs (by omega) b.1 (by omega) ?_
    simp (disch := omega) only [↓EVi, ↓EVc, ↓ft_X7_swap, ↓reduceIte, ↓EV_obs, ↓EV_obn, ↓EV_ais, ↓EV_ain, ↓EV_ob h0, mdF, mRun, List.mem_cons, List.not_mem_nil, or_false, mtab_eq, Nat.reduceEqDiff, Nat.zero_add, hd1, ke, kg, pk, pm, b02, b12, b20, mset2, b10, b00, not_true_eq_false, not_false_eq_true, true_implies, false_implies, implies_true, and_true, true_and, Nat.le_refl, true_or, or_true, eq_self, List.length_cons, List.length_nil, Nat.reduceAdd, Nat.reduceLT, Nat.reduceLeDiff]
    refine c_numberAt hM hs (by omega) b.1 (by omega) ?_
    simp (disch := omega) only [↓EVi, ↓EVc, ↓ft_X7_swap, ↓reduceIte, ↓EV_obs, ↓EV_obn, ↓EV_ais, ↓EV_ain, ↓EV_ob h0, mdF, mRun, List.mem_cons, List.not_mem_nil, or_false, mtab_eq, Nat.reduceEqDiff, Nat.zero_add, hd1, ke, kg, pk, pm, b02, b12, b20, mset2, b10, b00, not_true_eq_false, not_false_eq_true, true_implies, false_implies, implies_true, and_true, true_and, Nat.le_refl, true_or, or_true, eq_self, List.length_cons, List.length_nil, Nat.reduceAdd, Nat.reduceLT, Nat.reduceLeDiff]
    rw [nI_1]
    refine c_numberAt hM hs (by omega) b.1 (by omega) ?_
    simp (disch := omega) only [↓EVi, ↓EVc, ↓ft_X7_swap, ↓reduceIte, ↓EV_obs, ↓EV_obn, ↓EV_ais, ↓EV_ain, ↓EV_ob h0, mdF, mRun, List.mem_cons, List.not_mem_nil, or_false, mtab_eq, Nat.reduceEqDiff, Nat.zero_add, hd1, ke, kg, pk, pm, b02, b12, b20, mset2, b10, b00, not_true_eq_false, not_false_eq_true, true_implies, false_implies, implies_true, and_true, true_and, Nat.le_refl, true_or, or_true, eq_self, List.length_cons, List.length_nil, Nat.reduceAdd, Nat.reduceLT, Nat.reduceLeDiff]
    have x1 : (nI (evP (S.1.getD f []) (i + 1)) < nI (evP (S.1.getD f []) i) + 2) ↔ ¬ evP (S.1.getD f []) i + 2 ≤ evP (S.1.getD f []) (i + 1) := by simp (disch := omega) only [z_nI, z_lit, z_neg, z_add, z_sub, z_mul, z_lt, z_le, z_eq, z_in, z_cl]; omega
    have x2 : (nI (evP (S.1.getD f []) (i + 1)) + 0 ≤ nI (evP (S.1.getD f []) i)) ↔ evP (S.1.getD f []) (i + 1) + 0 ≤ evP (S.1.getD f []) i := by simp (disch := omega) only [z_nI, z_lit, z_neg, z_add, z_sub, z_mul, z_lt, z_le, z_eq, z_in, z_cl]; omega
    have x3 : (nI (ahL ((S.1.getD f []).take i)) + 2 ≤ 10) ↔ ((0 : Nat) = 0 → ahL ((S.1.getD f []).take i) + 2 ≤ 10) := by simp (disch := omega) only [z_nI, z_lit, z_neg, z_add, z_sub, z_mul, z_lt, z_le, z_eq, z_in, z_cl]; exact ⟨fun q _ => by omega, fun q => by have := q trivial; omega⟩
    refine ⟨fun y1 => ⟨fun y2 => ?_, fun y2 => none_ ?_⟩, fun y1 => ?_⟩
    · rw [if_neg (fun z => x1.mp y1 (by omega)), if_pos (by have := x2.mp y2; omega)] at pl0
      have z2 := x2.mp y2
      obtain ⟨gg, vi⟩ := sw _ _ pl0
      refine m_ahead (by omega) hM hs hw.1 (by omega) (by omega) ?_
      simp (disch := omega) only [↓EVi, ↓EVc, ↓ft_X7_swap, ↓reduceIte, ↓EV_obs, ↓EV_obn, ↓EV_ais, ↓EV_ain, ↓EV_ob h0, mdF, mRun, List.mem_cons, List.not_mem_nil, or_false, mtab_eq, Nat.reduceEqDiff, Nat.zero_add, hd1, ke, kg, pk, pm, b02, b12, b20, mset2, b10, b00, not_true_eq_false, not_false_eq_true, true_implies, false_implies, implies_true, and_true, true_and, Nat.le_refl, true_or, or_true, eq_self, List.length_cons, List.length_nil, Nat.reduceAdd, Nat.reduceLT, Nat.reduceLeDiff]
      refine m_adds ?_
      simp (disch := omega) only [↓EVi, ↓EVc, ↓ft_X7_swap, ↓reduceIte, ↓EV_obs, ↓EV_obn, ↓EV_ais, ↓EV_ain, ↓EV_ob h0, mdF, mRun, List.mem_cons, List.not_mem_nil, or_false, mtab_eq, Nat.reduceEqDiff, Nat.zero_add, hd1, ke, kg, pk, pm, b02, b12, b20, mset2, b10, b00, not_true_eq_false, not_false_eq_true, true_implies, false_implies, implies_true, and_true, true_and, Nat.le_refl, true_or, or_true, eq_self, List.length_cons, List.length_nil, Nat.reduceAdd, Nat.reduceLT, Nat.reduceLeDiff]
      refine ⟨fun y3 => ?_, fun y3 => ?_⟩
      case refine_2 =>
        rw [pl0, aRepl_full (fun z => y3 (x3.mpr (vi.mp z)))] at hp
        exact hp h ⟨v, a, hM, hL⟩ mKeep_rfl
      have vv := vi.mpr (x3.mp y3)
      rw [pl0, aRepl_some vv] at hp
      refine n_zero (by omega) hI hM hL hf (by omega) (fun h1 v1 a1 hM1 hL1 hN1 hk1 => ?_)
      simp (disch := omega) only [↓EVi, ↓EVc, ↓ft_X7_swap, ↓reduceIte, ↓EV_obs, ↓EV_obn, ↓EV_ais, ↓EV_ain, ↓EV_ob hM1.1, mdF, mRun, List.mem_cons, List.not_mem_nil, or_false, mtab_eq, Nat.reduceEqDiff, Nat.zero_add, hd1, ke, kg, pk, pm, b02, b12, b20, mset2, b10, b00, not_true_eq_false, not_false_eq_true, true_implies, false_implies, implies_true, and_true, true_and, Nat.le_refl, true_or, or_true, eq_self, List.length_cons, List.length_nil, Nat.reduceAdd, Nat.reduceLT, Nat.reduceLeDiff]
      refine n_put (k := 0) hM1 hL1 hN1 (by simp only [List.length_append, List.length_take, List.length_cons, List.length_nil]; omega) rfl rfl (fun h2 v2 a2 hM2 hL2 hN2 hk2 => ?_)
      simp (disch := omega) only [↓EVi, ↓EVc, ↓ft_X7_swap, ↓reduceIte, ↓EV_obs, ↓EV_obn, ↓EV_ais, ↓EV_ain, ↓EV_ob hM2.1, mdF, mRun, List.mem_cons, List.not_mem_nil, or_false, mtab_eq, Nat.reduceEqDiff, Nat.zero_add, hd1, ke, kg, pk, pm, b02, b12, b20, mset2, b10, b00, not_true_eq_false, not_false_eq_true, true_implies, false_implies, implies_true, and_true, true_and, Nat.le_refl, true_or, or_true, eq_self, List.length_cons, List.length_nil, Nat.reduceAdd, Nat.reduceLT, Nat.reduceLeDiff]
      refine m_adds ?_
      simp (disch := omega) only [↓EVi, ↓EVc, ↓ft_X7_swap, ↓reduceIte, ↓EV_obs, ↓EV_obn, ↓EV_ais, ↓EV_ain, ↓EV_ob hM2.1, mdF, mRun, List.mem_cons, List.not_mem_nil, or_false, mtab_eq, Nat.reduceEqDiff, Nat.zero_add, hd1, ke, kg, pk, pm, b02, b12, b20, mset2, b10, b00, not_true_eq_false, not_false_eq_true, true_implies, false_implies, implies_true, and_true, true_and, Nat.le_refl, true_or, or_true, eq_self, List.length_cons, List.length_nil, Nat.reduceAdd, Nat.reduceLT, Nat.reduceLeDiff]
      refine n_put (k := 1) (p := evP (S.1.getD f []) i + 2) hM2 hL2 hN2 (by simp only [List.length_append, List.length_take, List.length_cons, List.length_nil]; omega) rfl (by simp (disch := omega) only [z_nI, z_lit, z_neg, z_add, z_sub, z_mul, z_lt, z_le, z_eq, z_in, z_cl]; omega) (fun h3 v3 a3 hM3 hL3 hN3 hk3 => ?_)
      simp (disch := omega) only [↓EVi, ↓EVc, ↓ft_X7_swap, ↓reduceIte, ↓EV_obs, ↓EV_obn, ↓EV_ais, ↓EV_ain, ↓EV_ob hM3.1, mdF, mRun, List.mem_cons, List.not_mem_nil, or_false, mtab_eq, Nat.reduceEqDiff, Nat.zero_add, hd1, ke, kg, pk, pm, b02, b12, b20, mset2, b10, b00, not_true_eq_false, not_false_eq_true, true_implies, false_implies, implies_true, and_true, true_and, Nat.le_refl, true_or, or_true, eq_self, List.length_cons, List.length_nil, Nat.reduceAdd, Nat.reduceLT, Nat.reduceLeDiff]
      refine n_rest (j := i + 2) (by omega) hI hM3 hL3 hN3 hf (nI_add i 2) (by omega) ?_ (fun h9 hR9 hk9 => ?_)
      · have := (vld_bd vv).1
        simp only [repl, List.length_append, List.length_take, List.length_drop, List.length_cons, List.length_nil] at this ⊢
        omega
      simp (disch := omega) only [↓EVi, ↓EVc, ↓ft_X7_swap, ↓reduceIte, ↓EV_obs, ↓EV_obn, ↓EV_ais, ↓EV_ain, mdF, mRun, List.mem_cons, List.not_mem_nil, or_false, mtab_eq, Nat.reduceEqDiff, Nat.zero_add, hd1, mset2, b10, b00, not_true_eq_false, not_false_eq_true, true_implies, false_implies, implies_true, and_true, true_and, Nat.le_refl, true_or, or_true, eq_self, List.length_cons, List.length_nil, Nat.reduceAdd, Nat.reduceLT, Nat.reduceLeDiff]
      have key := hp h9 (by simpa only [repl, List.append_assoc, List.cons_append, List.nil_append, List.append_nil] using hR9) (mKeep_trans (mKeep_trans (mKeep_trans hk1 hk2) hk3) hk9)
      simpa only [repl, List.append_assoc, List.cons_append, List.nil_append, List.append_nil] using key
    · rw [pl0, if_neg (fun z => x1.mp y1 (by omega)), if_neg (fun z => y2 (x2.mpr (by omega)))]
    · have z1 : evP (S.1.getD f []) i + 2 ≤ evP (S.1.getD f []) (i + 1) := Classical.not_not.mp (fun z => y1 (x1.mpr z))
      rw [if_pos (by omega)] at pl0
      obtain ⟨gg, vi⟩ := sw _ _ pl0
      refine m_ahead (by omega) hM hs hw.1 (by omega) (by omega) ?_
      simp (disch := omega) only [↓EVi, ↓EVc, ↓ft_X7_swap, ↓reduceIte, ↓EV_obs, ↓EV_obn, ↓EV_ais, ↓EV_ain, ↓EV_ob h0, mdF, mRun, List.mem_cons, List.not_mem_nil, or_false, mtab_eq, Nat.reduceEqDiff, Nat.zero_add, hd1, ke, kg, pk, pm, b02, b12, b20, mset2, b10, b00, not_true_eq_false, not_false_eq_true, true_implies, false_implies, implies_true, and_true, true_and, Nat.le_refl, true_or, or_true, eq_self, List.length_cons, List.length_nil, Nat.reduceAdd, Nat.reduceLT, Nat.reduceLeDiff]
      refine m_adds ?_
      simp (disch := omega) only [↓EVi, ↓EVc, ↓ft_X7_swap, ↓reduceIte, ↓EV_obs, ↓EV_obn, ↓EV_ais, ↓EV_ain, ↓EV_ob h0, mdF, mRun, List.mem_cons, List.not_mem_nil, or_false, mtab_eq, Nat.reduceEqDiff, Nat.zero_add, hd1, ke, kg, pk, pm, b02, b12, b20, mset2, b10, b00, not_true_eq_false, not_false_eq_true, true_implies, false_implies, implies_true, and_true, true_and, Nat.le_refl, true_or, or_true, eq_self, List.length_cons, List.length_nil, Nat.reduceAdd, Nat.reduceLT, Nat.reduceLeDiff]
      refine ⟨fun y3 => ?_, fun y3 => ?_⟩
      case refine_2 =>
        rw [pl0, aRepl_full (fun z => y3 (x3.mpr (vi.mp z)))] at hp
        exact hp h ⟨v, a, hM, hL⟩ mKeep_rfl
      have vv := vi.mpr (x3.mp y3)
      rw [pl0, aRepl_some vv] at hp
      refine n_zero (by omega) hI hM hL hf (by omega) (fun h1 v1 a1 hM1 hL1 hN1 hk1 => ?_)
      simp (disch := omega) only [↓EVi, ↓EVc, ↓ft_X7_swap, ↓reduceIte, ↓EV_obs, ↓EV_obn, ↓EV_ais, ↓EV_ain, ↓EV_ob hM1.1, mdF, mRun, List.mem_cons, List.not_mem_nil, or_false, mtab_eq, Nat.reduceEqDiff, Nat.zero_add, hd1, ke, kg, pk, pm, b02, b12, b20, mset2, b10, b00, not_true_eq_false, not_false_eq_true, true_implies, false_implies, implies_true, and_true, true_and, Nat.le_refl, true_or, or_true, eq_self, List.length_cons, List.length_nil, Nat.reduceAdd, Nat.reduceLT, Nat.reduceLeDiff]
      refine m_adds ?_
      simp (disch := omega) only [↓EVi, ↓EVc, ↓ft_X7_swap, ↓reduceIte, ↓EV_obs, ↓EV_obn, ↓EV_ais, ↓EV_ain, ↓EV_ob hM1.1, mdF, mRun, List.mem_cons, List.not_mem_nil, or_false, mtab_eq, Nat.reduceEqDiff, Nat.zero_add, hd1, ke, kg, pk, pm, b02, b12, b20, mset2, b10, b00, not_true_eq_false, not_false_eq_true, true_implies, false_implies, implies_true, and_true, true_and, Nat.le_refl, true_or, or_true, eq_self, List.length_cons, List.length_nil, Nat.reduceAdd, Nat.reduceLT, Nat.reduceLeDiff]
      refine n_put (k := 0) (p := evP (S.1.getD f []) (i + 1)) hM1 hL1 hN1 (by simp only [List.length_append, List.length_take, List.length_cons, List.length_nil]; omega) rfl (by simp (disch := omega) only [z_nI, z_lit, z_neg, z_add, z_sub, z_mul, z_lt, z_le, z_eq, z_in, z_cl]; omega) (fun h2 v2 a2 hM2 hL2 hN2 hk2 => ?_)
      simp (disch := omega) only [↓EVi, ↓EVc, ↓ft_X7_swap, ↓reduceIte, ↓EV_obs, ↓EV_obn, ↓EV_ais, ↓EV_ain, ↓EV_ob hM2.1, mdF, mRun, List.mem_cons, List.not_mem_nil, or_false, mtab_eq, Nat.reduceEqDiff, Nat.zero_add, hd1, ke, kg, pk, pm, b02, b12, b20, mset2, b10, b00, not_true_eq_false, not_false_eq_true, true_implies, false_implies, implies_true, and_true, true_and, Nat.le_refl, true_or, or_true, eq_self, List.length_cons, List.length_nil, Nat.reduceAdd, Nat.reduceLT, Nat.reduceLeDiff]
      refine n_put (k := 1) hM2 hL2 hN2 (by simp only [List.length_append, List.length_take, List.length_cons, List.length_nil]; omega) rfl rfl (fun h3 v3 a3 hM3 hL3 hN3 hk3 => ?_)
      simp (disch := omega) only [↓EVi, ↓EVc, ↓ft_X7_swap, ↓reduceIte, ↓EV_obs, ↓EV_obn, ↓EV_ais, ↓EV_ain, ↓EV_ob hM3.1, mdF, mRun, List.mem_cons, List.not_mem_nil, or_false, mtab_eq, Nat.reduceEqDiff, Nat.zero_add, hd1, ke, kg, pk, pm, b02, b12, b20, mset2, b10, b00, not_true_eq_false, not_false_eq_true, true_implies, false_implies, implies_true, and_true, true_and, Nat.le_refl, true_or, or_true, eq_self, List.length_cons, List.length_nil, Nat.reduceAdd, Nat.reduceLT, Nat.reduceLeDiff]
      refine n_rest (j := i + 2) (by omega) hI hM3 hL3 hN3 hf (nI_add i 2) (by omega) ?_ (fun h9 hR9 hk9 => ?_)
      · have := (vld_bd vv).1
        simp only [repl, List.length_append, List.length_take, List.length_drop, List.length_cons, List.length_nil] at this ⊢
        omega
      simp (disch := omega) only [↓EVi, ↓EVc, ↓ft_X7_swap, ↓reduceIte, ↓EV_obs, ↓EV_obn, ↓EV_ais, ↓EV_ain, mdF, mRun, List.mem_cons, List.not_mem_nil, or_false, mtab_eq, Nat.reduceEqDiff, Nat.zero_add, hd1, mset2, b10, b00, not_true_eq_false, not_false_eq_true, true_implies, false_implies, implies_true, and_true, true_and, Nat.le_refl, true_or, or_true, eq_self, List.length_cons, List.length_nil, Nat.reduceAdd, Nat.reduceLT, Nat.reduceLeDiff]
      have key := hp h9 (by simpa only [repl, List.append_assoc, List.cons_append, List.nil_append, List.append_nil] using hR9) (mKeep_trans (mKeep_trans (mKeep_trans hk1 hk2) hk3) hk9)
      simpa only [repl, List.append_assoc, List.cons_append, List.nil_append, List.append_nil] using key
  · have ke : kA (S.1.getD f []) i = 1 := by unfold kA; rw [if_pos hi, he]; rfl
    have kg : kA (S.1.getD f []) (i + 1) = 1 := by unfold kA; rw [if_pos hl, hg]; rfl
    rw [he, hg] at pl0
    simp only [subA, stp] at pl0
    simp only [↓reduceIte, Nat.reduceEqDiff, Nat.add_zero] at pl0
    rw [hg] at sw
    refine c_kindAt hM hs (by omega) b.1 (by omega) ?_
    simp (disch := omega) only [↓EVi, ↓EVc, ↓ft_X7_swap, ↓reduceIte, ↓EV_obs, ↓EV_obn, ↓EV_ais, ↓EV_ain, ↓EV_ob h0, mdF, mRun, List.mem_cons, List.not_mem_nil, or_false, mtab_eq, Nat.reduceEqDiff, Nat.zero_add, hd1, ke, kg, pk, pm, b02, b12, b20, mset2, b10, b00, not_true_eq_false, not_false_eq_true, true_implies, false_implies, implies_true, and_true, true_and, Nat.le_refl, true_or, or_true, eq_self, List.length_cons, List.length_nil, Nat.reduceAdd, Nat.reduceLT, Nat.reduceLeDiff]
    rw [nI_1]
    refine c_kindAt hM hs (by omega) b.1 (by omega) ?_
    simp (disch := omega) only [↓EVi, ↓EVc, ↓ft_X7_swap, ↓reduceIte, ↓EV_obs, ↓EV_obn, ↓EV_ais, ↓EV_ain, ↓EV_ob h0, mdF, mRun, List.mem_cons, List.not_mem_nil, or_false, mtab_eq, Nat.reduceEqDiff, Nat.zero_add, hd1, ke, kg, pk, pm, b02, b12, b20, mset2, b10, b00, not_true_eq_false, not_false_eq_true, true_implies, false_implies, implies_true, and_true, true_and, Nat.le_refl, true_or, or_true, eq_self, List.length_cons, List.length_nil, Nat.reduceAdd, Nat.reduceLT, Nat.reduceLeDiff]
    refine c_numberAt hM hs (by omega) b.1 (by omega) ?_
    simp (disch := omega) only [↓EVi, ↓EVc, ↓ft_X7_swap, ↓reduceIte, ↓EV_obs, ↓EV_obn, ↓EV_ais, ↓EV_ain, ↓EV_ob h0, mdF, mRun, List.mem_cons, List.not_mem_nil, or_false, mtab_eq, Nat.reduceEqDiff, Nat.zero_add, hd1, ke, kg, pk, pm, b02, b12, b20, mset2, b10, b00, not_true_eq_false, not_false_eq_true, true_implies, false_implies, implies_true, and_true, true_and, Nat.le_refl, true_or, or_true, eq_self, List.length_cons, List.length_nil, Nat.reduceAdd, Nat.reduceLT, Nat.reduceLeDiff]
    rw [nI_1]
    refine c_numberAt hM hs (by omega) b.1 (by omega) ?_
    simp (disch := omega) only [↓EVi, ↓EVc, ↓ft_X7_swap, ↓reduceIte, ↓EV_obs, ↓EV_obn, ↓EV_ais, ↓EV_ain, ↓EV_ob h0, mdF, mRun, List.mem_cons, List.not_mem_nil, or_false, mtab_eq, Nat.reduceEqDiff, Nat.zero_add, hd1, ke, kg, pk, pm, b02, b12, b20, mset2, b10, b00, not_true_eq_false, not_false_eq_true, true_implies, false_implies, implies_true, and_true, true_and, Nat.le_refl, true_or, or_true, eq_self, List.length_cons, List.length_nil, Nat.reduceAdd, Nat.reduceLT, Nat.reduceLeDiff]
    have x1 : (nI (evP (S.1.getD f []) (i + 1)) < nI (evP (S.1.getD f []) i) + 2) ↔ ¬ evP (S.1.getD f []) i + 2 ≤ evP (S.1.getD f []) (i + 1) := by simp (disch := omega) only [z_nI, z_lit, z_neg, z_add, z_sub, z_mul, z_lt, z_le, z_eq, z_in, z_cl]; omega
    have x2 : (nI (evP (S.1.getD f []) (i + 1)) + 2 ≤ nI (evP (S.1.getD f []) i)) ↔ evP (S.1.getD f []) (i + 1) + 2 ≤ evP (S.1.getD f []) i := by simp (disch := omega) only [z_nI, z_lit, z_neg, z_add, z_sub, z_mul, z_lt, z_le, z_eq, z_in, z_cl]; omega
    have x3 : (nI (ahL ((S.1.getD f []).take i)) + 0 ≤ 10) ↔ ((1 : Nat) = 0 → ahL ((S.1.getD f []).take i) + 2 ≤ 10) := by simp (disch := omega) only [z_nI, z_lit, z_neg, z_add, z_sub, z_mul, z_lt, z_le, z_eq, z_in, z_cl]; exact ⟨fun _ z => absurd z (by decide), fun _ => by omega⟩
    refine ⟨fun y1 => ⟨fun y2 => ?_, fun y2 => none_ ?_⟩, fun y1 => ?_⟩
    · rw [if_neg (fun z => x1.mp y1 (by omega)), if_pos (by have := x2.mp y2; omega)] at pl0
      have z2 := x2.mp y2
      obtain ⟨gg, vi⟩ := sw _ _ pl0
      refine m_ahead (by omega) hM hs hw.1 (by omega) (by omega) ?_
      simp (disch := omega) only [↓EVi, ↓EVc, ↓ft_X7_swap, ↓reduceIte, ↓EV_obs, ↓EV_obn, ↓EV_ais, ↓EV_ain, ↓EV_ob h0, mdF, mRun, List.mem_cons, List.not_mem_nil, or_false, mtab_eq, Nat.reduceEqDiff, Nat.zero_add, hd1, ke, kg, pk, pm, b02, b12, b20, mset2, b10, b00, not_true_eq_false, not_false_eq_true, true_implies, false_implies, implies_true, and_true, true_and, Nat.le_refl, true_or, or_true, eq_self, List.length_cons, List.length_nil, Nat.reduceAdd, Nat.reduceLT, Nat.reduceLeDiff]
      refine m_adds ?_
      simp (disch := omega) only [↓EVi, ↓EVc, ↓ft_X7_swap, ↓reduceIte, ↓EV_obs, ↓EV_obn, ↓EV_ais, ↓EV_ain, ↓EV_ob h0, mdF, mRun, List.mem_cons, List.not_mem_nil, or_false, mtab_eq, Nat.reduceEqDiff, Nat.zero_add, hd1, ke, kg, pk, pm, b02, b12, b20, mset2, b10, b00, not_true_eq_false, not_false_eq_true, true_implies, false_implies, implies_true, and_true, true_and, Nat.le_refl, true_or, or_true, eq_self, List.length_cons, List.length_nil, Nat.reduceAdd, Nat.reduceLT, Nat.reduceLeDiff]
      refine ⟨fun y3 => ?_, fun y3 => ?_⟩
      case refine_2 =>
        rw [pl0, aRepl_full (fun z => y3 (x3.mpr (vi.mp z)))] at hp
        exact hp h ⟨v, a, hM, hL⟩ mKeep_rfl
      have vv := vi.mpr (x3.mp y3)
      rw [pl0, aRepl_some vv] at hp
      refine n_zero (by omega) hI hM hL hf (by omega) (fun h1 v1 a1 hM1 hL1 hN1 hk1 => ?_)
      simp (disch := omega) only [↓EVi, ↓EVc, ↓ft_X7_swap, ↓reduceIte, ↓EV_obs, ↓EV_obn, ↓EV_ais, ↓EV_ain, ↓EV_ob hM1.1, mdF, mRun, List.mem_cons, List.not_mem_nil, or_false, mtab_eq, Nat.reduceEqDiff, Nat.zero_add, hd1, ke, kg, pk, pm, b02, b12, b20, mset2, b10, b00, not_true_eq_false, not_false_eq_true, true_implies, false_implies, implies_true, and_true, true_and, Nat.le_refl, true_or, or_true, eq_self, List.length_cons, List.length_nil, Nat.reduceAdd, Nat.reduceLT, Nat.reduceLeDiff]
      refine n_put (k := 1) hM1 hL1 hN1 (by simp only [List.length_append, List.length_take, List.length_cons, List.length_nil]; omega) rfl rfl (fun h2 v2 a2 hM2 hL2 hN2 hk2 => ?_)
      simp (disch := omega) only [↓EVi, ↓EVc, ↓ft_X7_swap, ↓reduceIte, ↓EV_obs, ↓EV_obn, ↓EV_ais, ↓EV_ain, ↓EV_ob hM2.1, mdF, mRun, List.mem_cons, List.not_mem_nil, or_false, mtab_eq, Nat.reduceEqDiff, Nat.zero_add, hd1, ke, kg, pk, pm, b02, b12, b20, mset2, b10, b00, not_true_eq_false, not_false_eq_true, true_implies, false_implies, implies_true, and_true, true_and, Nat.le_refl, true_or, or_true, eq_self, List.length_cons, List.length_nil, Nat.reduceAdd, Nat.reduceLT, Nat.reduceLeDiff]
      refine m_adds ?_
      simp (disch := omega) only [↓EVi, ↓EVc, ↓ft_X7_swap, ↓reduceIte, ↓EV_obs, ↓EV_obn, ↓EV_ais, ↓EV_ain, ↓EV_ob hM2.1, mdF, mRun, List.mem_cons, List.not_mem_nil, or_false, mtab_eq, Nat.reduceEqDiff, Nat.zero_add, hd1, ke, kg, pk, pm, b02, b12, b20, mset2, b10, b00, not_true_eq_false, not_false_eq_true, true_implies, false_implies, implies_true, and_true, true_and, Nat.le_refl, true_or, or_true, eq_self, List.length_cons, List.length_nil, Nat.reduceAdd, Nat.reduceLT, Nat.reduceLeDiff]
      refine n_put (k := 1) (p := evP (S.1.getD f []) i) hM2 hL2 hN2 (by simp only [List.length_append, List.length_take, List.length_cons, List.length_nil]; omega) rfl (by simp (disch := omega) only [z_nI, z_lit, z_neg, z_add, z_sub, z_mul, z_lt, z_le, z_eq, z_in, z_cl]; omega) (fun h3 v3 a3 hM3 hL3 hN3 hk3 => ?_)
      simp (disch := omega) only [↓EVi, ↓EVc, ↓ft_X7_swap, ↓reduceIte, ↓EV_obs, ↓EV_obn, ↓EV_ais, ↓EV_ain, ↓EV_ob hM3.1, mdF, mRun, List.mem_cons, List.not_mem_nil, or_false, mtab_eq, Nat.reduceEqDiff, Nat.zero_add, hd1, ke, kg, pk, pm, b02, b12, b20, mset2, b10, b00, not_true_eq_false, not_false_eq_true, true_implies, false_implies, implies_true, and_true, true_and, Nat.le_refl, true_or, or_true, eq_self, List.length_cons, List.length_nil, Nat.reduceAdd, Nat.reduceLT, Nat.reduceLeDiff]
      refine n_rest (j := i + 2) (by omega) hI hM3 hL3 hN3 hf (nI_add i 2) (by omega) ?_ (fun h9 hR9 hk9 => ?_)
      · have := (vld_bd vv).1
        simp only [repl, List.length_append, List.length_take, List.length_drop, List.length_cons, List.length_nil] at this ⊢
        omega
      simp (disch := omega) only [↓EVi, ↓EVc, ↓ft_X7_swap, ↓reduceIte, ↓EV_obs, ↓EV_obn, ↓EV_ais, ↓EV_ain, mdF, mRun, List.mem_cons, List.not_mem_nil, or_false, mtab_eq, Nat.reduceEqDiff, Nat.zero_add, hd1, mset2, b10, b00, not_true_eq_false, not_false_eq_true, true_implies, false_implies, implies_true, and_true, true_and, Nat.le_refl, true_or, or_true, eq_self, List.length_cons, List.length_nil, Nat.reduceAdd, Nat.reduceLT, Nat.reduceLeDiff]
      have key := hp h9 (by simpa only [repl, List.append_assoc, List.cons_append, List.nil_append, List.append_nil] using hR9) (mKeep_trans (mKeep_trans (mKeep_trans hk1 hk2) hk3) hk9)
      simpa only [repl, List.append_assoc, List.cons_append, List.nil_append, List.append_nil] using key
    · rw [pl0, if_neg (fun z => x1.mp y1 (by omega)), if_neg (fun z => y2 (x2.mpr (by omega)))]
    · have z1 : evP (S.1.getD f []) i + 2 ≤ evP (S.1.getD f []) (i + 1) := Classical.not_not.mp (fun z => y1 (x1.mpr z))
      rw [if_pos (by omega)] at pl0
      obtain ⟨gg, vi⟩ := sw _ _ pl0
      refine m_ahead (by omega) hM hs hw.1 (by omega) (by omega) ?_
      simp (disch := omega) only [↓EVi, ↓EVc, ↓ft_X7_swap, ↓reduceIte, ↓EV_obs, ↓EV_obn, ↓EV_ais, ↓EV_ain, ↓EV_ob h0, mdF, mRun, List.mem_cons, List.not_mem_nil, or_false, mtab_eq, Nat.reduceEqDiff, Nat.zero_add, hd1, ke, kg, pk, pm, b02, b12, b20, mset2, b10, b00, not_true_eq_false, not_false_eq_true, true_implies, false_implies, implies_true, and_true, true_and, Nat.le_refl, true_or, or_true, eq_self, List.length_cons, List.length_nil, Nat.reduceAdd, Nat.reduceLT, Nat.reduceLeDiff]
      refine m_adds ?_
      simp (disch := omega) only [↓EVi, ↓EVc, ↓ft_X7_swap, ↓reduceIte, ↓EV_obs, ↓EV_obn, ↓EV_ais, ↓EV_ain, ↓EV_ob h0, mdF, mRun, List.mem_cons, List.not_mem_nil, or_false, mtab_eq, Nat.reduceEqDiff, Nat.zero_add, hd1, ke, kg, pk, pm, b02, b12, b20, mset2, b10, b00, not_true_eq_false, not_false_eq_true, true_implies, false_implies, implies_true, and_true, true_and, Nat.le_refl, true_or, or_true, eq_self, List.length_cons, List.length_nil, Nat.reduceAdd, Nat.reduceLT, Nat.reduceLeDiff]
      refine ⟨fun y3 => ?_, fun y3 => ?_⟩
      case refine_2 =>
        rw [pl0, aRepl_full (fun z => y3 (x3.mpr (vi.mp z)))] at hp
        exact hp h ⟨v, a, hM, hL⟩ mKeep_rfl
      have vv := vi.mpr (x3.mp y3)
      rw [pl0, aRepl_some vv] at hp
      refine n_zero (by omega) hI hM hL hf (by omega) (fun h1 v1 a1 hM1 hL1 hN1 hk1 => ?_)
      simp (disch := omega) only [↓EVi, ↓EVc, ↓ft_X7_swap, ↓reduceIte, ↓EV_obs, ↓EV_obn, ↓EV_ais, ↓EV_ain, ↓EV_ob hM1.1, mdF, mRun, List.mem_cons, List.not_mem_nil, or_false, mtab_eq, Nat.reduceEqDiff, Nat.zero_add, hd1, ke, kg, pk, pm, b02, b12, b20, mset2, b10, b00, not_true_eq_false, not_false_eq_true, true_implies, false_implies, implies_true, and_true, true_and, Nat.le_refl, true_or, or_true, eq_self, List.length_cons, List.length_nil, Nat.reduceAdd, Nat.reduceLT, Nat.reduceLeDiff]
      refine m_adds ?_
      simp (disch := omega) only [↓EVi, ↓EVc, ↓ft_X7_swap, ↓reduceIte, ↓EV_obs, ↓EV_obn, ↓EV_ais, ↓EV_ain, ↓EV_ob hM1.1, mdF, mRun, List.mem_cons, List.not_mem_nil, or_false, mtab_eq, Nat.reduceEqDiff, Nat.zero_add, hd1, ke, kg, pk, pm, b02, b12, b20, mset2, b10, b00, not_true_eq_false, not_false_eq_true, true_implies, false_implies, implies_true, and_true, true_and, Nat.le_refl, true_or, or_true, eq_self, List.length_cons, List.length_nil, Nat.reduceAdd, Nat.reduceLT, Nat.reduceLeDiff]
      refine n_put (k := 1) (p := evP (S.1.getD f []) (i + 1)) hM1 hL1 hN1 (by simp only [List.length_append, List.length_take, List.length_cons, List.length_nil]; omega) rfl (by simp (disch := omega) only [z_nI, z_lit, z_neg, z_add, z_sub, z_mul, z_lt, z_le, z_eq, z_in, z_cl]; omega) (fun h2 v2 a2 hM2 hL2 hN2 hk2 => ?_)
      simp (disch := omega) only [↓EVi, ↓EVc, ↓ft_X7_swap, ↓reduceIte, ↓EV_obs, ↓EV_obn, ↓EV_ais, ↓EV_ain, ↓EV_ob hM2.1, mdF, mRun, List.mem_cons, List.not_mem_nil, or_false, mtab_eq, Nat.reduceEqDiff, Nat.zero_add, hd1, ke, kg, pk, pm, b02, b12, b20, mset2, b10, b00, not_true_eq_false, not_false_eq_true, true_implies, false_implies, implies_true, and_true, true_and, Nat.le_refl, true_or, or_true, eq_self, List.length_cons, List.length_nil, Nat.reduceAdd, Nat.reduceLT, Nat.reduceLeDiff]
      refine n_put (k := 1) hM2 hL2 hN2 (by simp only [List.length_append, List.length_take, List.length_cons, List.length_nil]; omega) rfl rfl (fun h3 v3 a3 hM3 hL3 hN3 hk3 => ?_)
      simp (disch := omega) only [↓EVi, ↓EVc, ↓ft_X7_swap, ↓reduceIte, ↓EV_obs, ↓EV_obn, ↓EV_ais, ↓EV_ain, ↓EV_ob hM3.1, mdF, mRun, List.mem_cons, List.not_mem_nil, or_false, mtab_eq, Nat.reduceEqDiff, Nat.zero_add, hd1, ke, kg, pk, pm, b02, b12, b20, mset2, b10, b00, not_true_eq_false, not_false_eq_true, true_implies, false_implies, implies_true, and_true, true_and, Nat.le_refl, true_or, or_true, eq_self, List.length_cons, List.length_nil, Nat.reduceAdd, Nat.reduceLT, Nat.reduceLeDiff]
      refine n_rest (j := i + 2) (by omega) hI hM3 hL3 hN3 hf (nI_add i 2) (by omega) ?_ (fun h9 hR9 hk9 => ?_)
      · have := (vld_bd vv).1
        simp only [repl, List.length_append, List.length_take, List.length_drop, List.length_cons, List.length_nil] at this ⊢
        omega
      simp (disch := omega) only [↓EVi, ↓EVc, ↓ft_X7_swap, ↓reduceIte, ↓EV_obs, ↓EV_obn, ↓EV_ais, ↓EV_ain, mdF, mRun, List.mem_cons, List.not_mem_nil, or_false, mtab_eq, Nat.reduceEqDiff, Nat.zero_add, hd1, mset2, b10, b00, not_true_eq_false, not_false_eq_true, true_implies, false_implies, implies_true, and_true, true_and, Nat.le_refl, true_or, or_true, eq_self, List.length_cons, List.length_nil, Nat.reduceAdd, Nat.reduceLT, Nat.reduceLeDiff]
      have key := hp h9 (by simpa only [repl, List.append_assoc, List.cons_append, List.nil_append, List.append_nil] using hR9) (mKeep_trans (mKeep_trans (mKeep_trans hk1 hk2) hk3) hk9)
      simpa only [repl, List.append_assoc, List.cons_append, List.nil_append, List.append_nil] using key
  · have ke : kA (S.1.getD f []) i = 1 := by unfold kA; rw [if_pos hi, he]; rfl
    have kg : kA (S.1.getD f []) (i + 1) = 2 := by unfold kA; rw [if_pos hl, hg]; rfl
    rw [he, hg] at pl0
    simp only [subA, stp] at pl0
    simp only [↓reduceIte, Nat.reduceEqDiff, Nat.add_zero] at pl0
    rw [hg] at sw
    refine c_kindAt hM hs (by omega) b.1 (by omega) ?_
    simp (disch := omega) only [↓EVi, ↓EVc, ↓ft_X7_swap, ↓reduceIte, ↓EV_obs, ↓EV_obn, ↓EV_ais, ↓EV_ain, ↓EV_ob h0, mdF, mRun, List.mem_cons, List.not_mem_nil, or_false, mtab_eq, Nat.reduceEqDiff, Nat.zero_add, hd1, ke, kg, pk, pm, b02, b12, b20, mset2, b10, b00, not_true_eq_false, not_false_eq_true, true_implies, false_implies, implies_true, and_true, true_and, Nat.le_refl, true_or, or_true, eq_self, List.length_cons, List.length_nil, Nat.reduceAdd, Nat.reduceLT, Nat.reduceLeDiff]
    rw [nI_1]
    refine c_kindAt hM hs (by omega) b.1 (by omega) ?_
    simp (disch := omega) only [↓EVi, ↓EVc, ↓ft_X7_swap, ↓reduceIte, ↓EV_obs, ↓EV_obn, ↓EV_ais, ↓EV_ain, ↓EV_ob h0, mdF, mRun, List.mem_cons, List.not_mem_nil, or_false, mtab_eq, Nat.reduceEqDiff, Nat.zero_add, hd1, ke, kg, pk, pm, b02, b12, b20, mset2, b10, b00, not_true_eq_false, not_false_eq_true, true_implies, false_implies, implies_true, and_true, true_and, Nat.le_refl, true_or, or_true, eq_self, List.length_cons, List.length_nil, Nat.reduceAdd, Nat.reduceLT, Nat.reduceLeDiff]
    refine c_numberAt hM hs (by omega) b.1 (by omega) ?_
    simp (disch := omega) only [↓EVi, ↓EVc, ↓ft_X7_swap, ↓reduceIte, ↓EV_obs, ↓EV_obn, ↓EV_ais, ↓EV_ain, ↓EV_ob h0, mdF, mRun, List.mem_cons, List.not_mem_nil, or_false, mtab_eq, Nat.reduceEqDiff, Nat.zero_add, hd1, ke, kg, pk, pm, b02, b12, b20, mset2, b10, b00, not_true_eq_false, not_false_eq_true, true_implies, false_implies, implies_true, and_true, true_and, Nat.le_refl, true_or, or_true, eq_self, List.length_cons, List.length_nil, Nat.reduceAdd, Nat.reduceLT, Nat.reduceLeDiff]
    rw [nI_1]
    refine c_numberAt hM hs (by omega) b.1 (by omega) ?_
    simp (disch := omega) only [↓EVi, ↓EVc, ↓ft_X7_swap, ↓reduceIte, ↓EV_obs, ↓EV_obn, ↓EV_ais, ↓EV_ain, ↓EV_ob h0, mdF, mRun, List.mem_cons, List.not_mem_nil, or_false, mtab_eq, Nat.reduceEqDiff, Nat.zero_add, hd1, ke, kg, pk, pm, b02, b12, b20, mset2, b10, b00, not_true_eq_false, not_false_eq_true, true_implies, false_implies, implies_true, and_true, true_and, Nat.le_refl, true_or, or_true, eq_self, List.length_cons, List.length_nil, Nat.reduceAdd, Nat.reduceLT, Nat.reduceLeDiff]
    have x1 : (nI (evP (S.1.getD f []) (i + 1)) < nI (evP (S.1.getD f []) i) + 2) ↔ ¬ evP (S.1.getD f []) i + 2 ≤ evP (S.1.getD f []) (i + 1) := by simp (disch := omega) only [z_nI, z_lit, z_neg, z_add, z_sub, z_mul, z_lt, z_le, z_eq, z_in, z_cl]; omega
    have x2 : (nI (evP (S.1.getD f []) (i + 1)) + 2 ≤ nI (evP (S.1.getD f []) i)) ↔ evP (S.1.getD f []) (i + 1) + 2 ≤ evP (S.1.getD f []) i := by simp (disch := omega) only [z_nI, z_lit, z_neg, z_add, z_sub, z_mul, z_lt, z_le, z_eq, z_in, z_cl]; omega
    have x3 : (nI (ahL ((S.1.getD f []).take i)) + -2 ≤ 10) ↔ ((2 : Nat) = 0 → ahL ((S.1.getD f []).take i) + 2 ≤ 10) := by simp (disch := omega) only [z_nI, z_lit, z_neg, z_add, z_sub, z_mul, z_lt, z_le, z_eq, z_in, z_cl]; exact ⟨fun _ z => absurd z (by decide), fun _ => by omega⟩
    refine ⟨fun y1 => ⟨fun y2 => ?_, fun y2 => none_ ?_⟩, fun y1 => ?_⟩
    · rw [if_neg (fun z => x1.mp y1 (by omega)), if_pos (by have := x2.mp y2; omega)] at pl0
      have z2 := x2.mp y2
      obtain ⟨gg, vi⟩ := sw _ _ pl0
      refine m_ahead (by omega) hM hs hw.1 (by omega) (by omega) ?_
      simp (disch := omega) only [↓EVi, ↓EVc, ↓ft_X7_swap, ↓reduceIte, ↓EV_obs, ↓EV_obn, ↓EV_ais, ↓EV_ain, ↓EV_ob h0, mdF, mRun, List.mem_cons, List.not_mem_nil, or_false, mtab_eq, Nat.reduceEqDiff, Nat.zero_add, hd1, ke, kg, pk, pm, b02, b12, b20, mset2, b10, b00, not_true_eq_false, not_false_eq_true, true_implies, false_implies, implies_true, and_true, true_and, Nat.le_refl, true_or, or_true, eq_self, List.length_cons, List.length_nil, Nat.reduceAdd, Nat.reduceLT, Nat.reduceLeDiff]
      refine m_adds ?_
      simp (disch := omega) only [↓EVi, ↓EVc, ↓ft_X7_swap, ↓reduceIte, ↓EV_obs, ↓EV_obn, ↓EV_ais, ↓EV_ain, ↓EV_ob h0, mdF, mRun, List.mem_cons, List.not_mem_nil, or_false, mtab_eq, Nat.reduceEqDiff, Nat.zero_add, hd1, ke, kg, pk, pm, b02, b12, b20, mset2, b10, b00, not_true_eq_false, not_false_eq_true, true_implies, false_implies, implies_true, and_true, true_and, Nat.le_refl, true_or, or_true, eq_self, List.length_cons, List.length_nil, Nat.reduceAdd, Nat.reduceLT, Nat.reduceLeDiff]
      refine ⟨fun y3 => ?_, fun y3 => ?_⟩
      case refine_2 =>
        rw [pl0, aRepl_full (fun z => y3 (x3.mpr (vi.mp z)))] at hp
        exact hp h ⟨v, a, hM, hL⟩ mKeep_rfl
      have vv := vi.mpr (x3.mp y3)
      rw [pl0, aRepl_some vv] at hp
      refine n_zero (by omega) hI hM hL hf (by omega) (fun h1 v1 a1 hM1 hL1 hN1 hk1 => ?_)
      simp (disch := omega) only [↓EVi, ↓EVc, ↓ft_X7_swap, ↓reduceIte, ↓EV_obs, ↓EV_obn, ↓EV_ais, ↓EV_ain, ↓EV_ob hM1.1, mdF, mRun, List.mem_cons, List.not_mem_nil, or_false, mtab_eq, Nat.reduceEqDiff, Nat.zero_add, hd1, ke, kg, pk, pm, b02, b12, b20, mset2, b10, b00, not_true_eq_false, not_false_eq_true, true_implies, false_implies, implies_true, and_true, true_and, Nat.le_refl, true_or, or_true, eq_self, List.length_cons, List.length_nil, Nat.reduceAdd, Nat.reduceLT, Nat.reduceLeDiff]
      refine n_put (k := 2) hM1 hL1 hN1 (by simp only [List.length_append, List.length_take, List.length_cons, List.length_nil]; omega) rfl rfl (fun h2 v2 a2 hM2 hL2 hN2 hk2 => ?_)
      simp (disch := omega) only [↓EVi, ↓EVc, ↓ft_X7_swap, ↓reduceIte, ↓EV_obs, ↓EV_obn, ↓EV_ais, ↓EV_ain, ↓EV_ob hM2.1, mdF, mRun, List.mem_cons, List.not_mem_nil, or_false, mtab_eq, Nat.reduceEqDiff, Nat.zero_add, hd1, ke, kg, pk, pm, b02, b12, b20, mset2, b10, b00, not_true_eq_false, not_false_eq_true, true_implies, false_implies, implies_true, and_true, true_and, Nat.le_refl, true_or, or_true, eq_self, List.length_cons, List.length_nil, Nat.reduceAdd, Nat.reduceLT, Nat.reduceLeDiff]
      refine m_adds ?_
      simp (disch := omega) only [↓EVi, ↓EVc, ↓ft_X7_swap, ↓reduceIte, ↓EV_obs, ↓EV_obn, ↓EV_ais, ↓EV_ain, ↓EV_ob hM2.1, mdF, mRun, List.mem_cons, List.not_mem_nil, or_false, mtab_eq, Nat.reduceEqDiff, Nat.zero_add, hd1, ke, kg, pk, pm, b02, b12, b20, mset2, b10, b00, not_true_eq_false, not_false_eq_true, true_implies, false_implies, implies_true, and_true, true_and, Nat.le_refl, true_or, or_true, eq_self, List.length_cons, List.length_nil, Nat.reduceAdd, Nat.reduceLT, Nat.reduceLeDiff]
      refine n_put (k := 1) (p := evP (S.1.getD f []) i - 2) hM2 hL2 hN2 (by simp only [List.length_append, List.length_take, List.length_cons, List.length_nil]; omega) rfl (by simp (disch := omega) only [z_nI, z_lit, z_neg, z_add, z_sub, z_mul, z_lt, z_le, z_eq, z_in, z_cl]; omega) (fun h3 v3 a3 hM3 hL3 hN3 hk3 => ?_)
      simp (disch := omega) only [↓EVi, ↓EVc, ↓ft_X7_swap, ↓reduceIte, ↓EV_obs, ↓EV_obn, ↓EV_ais, ↓EV_ain, ↓EV_ob hM3.1, mdF, mRun, List.mem_cons, List.not_mem_nil, or_false, mtab_eq, Nat.reduceEqDiff, Nat.zero_add, hd1, ke, kg, pk, pm, b02, b12, b20, mset2, b10, b00, not_true_eq_false, not_false_eq_true, true_implies, false_implies, implies_true, and_true, true_and, Nat.le_refl, true_or, or_true, eq_self, List.length_cons, List.length_nil, Nat.reduceAdd, Nat.reduceLT, Nat.reduceLeDiff]
      refine n_rest (j := i + 2) (by omega) hI hM3 hL3 hN3 hf (nI_add i 2) (by omega) ?_ (fun h9 hR9 hk9 => ?_)
      · have := (vld_bd vv).1
        simp only [repl, List.length_append, List.length_take, List.length_drop, List.length_cons, List.length_nil] at this ⊢
        omega
      simp (disch := omega) only [↓EVi, ↓EVc, ↓ft_X7_swap, ↓reduceIte, ↓EV_obs, ↓EV_obn, ↓EV_ais, ↓EV_ain, mdF, mRun, List.mem_cons, List.not_mem_nil, or_false, mtab_eq, Nat.reduceEqDiff, Nat.zero_add, hd1, mset2, b10, b00, not_true_eq_false, not_false_eq_true, true_implies, false_implies, implies_true, and_true, true_and, Nat.le_refl, true_or, or_true, eq_self, List.length_cons, List.length_nil, Nat.reduceAdd, Nat.reduceLT, Nat.reduceLeDiff]
      have key := hp h9 (by simpa only [repl, List.append_assoc, List.cons_append, List.nil_append, List.append_nil] using hR9) (mKeep_trans (mKeep_trans (mKeep_trans hk1 hk2) hk3) hk9)
      simpa only [repl, List.append_assoc, List.cons_append, List.nil_append, List.append_nil] using key
    · rw [pl0, if_neg (fun z => x1.mp y1 (by omega)), if_neg (fun z => y2 (x2.mpr (by omega)))]
    · have z1 : evP (S.1.getD f []) i + 2 ≤ evP (S.1.getD f []) (i + 1) := Classical.not_not.mp (fun z => y1 (x1.mpr z))
      rw [if_pos (by omega)] at pl0
      obtain ⟨gg, vi⟩ := sw _ _ pl0
      refine m_ahead (by omega) hM hs hw.1 (by omega) (by omega) ?_
      simp (disch := omega) only [↓EVi, ↓EVc, ↓ft_X7_swap, ↓reduceIte, ↓EV_obs, ↓EV_obn, ↓EV_ais, ↓EV_ain, ↓EV_ob h0, mdF, mRun, List.mem_cons, List.not_mem_nil, or_false, mtab_eq, Nat.reduceEqDiff, Nat.zero_add, hd1, ke, kg, pk, pm, b02, b12, b20, mset2, b10, b00, not_true_eq_false, not_false_eq_true, true_implies, false_implies, implies_true, and_true, true_and, Nat.le_refl, true_or, or_true, eq_self, List.length_cons, List.length_nil, Nat.reduceAdd, Nat.reduceLT, Nat.reduceLeDiff]
      refine m_adds ?_
      simp (disch := omega) only [↓EVi, ↓EVc, ↓ft_X7_swap, ↓reduceIte, ↓EV_obs, ↓EV_obn, ↓EV_ais, ↓EV_ain, ↓EV_ob h0, mdF, mRun, List.mem_cons, List.not_mem_nil, or_false, mtab_eq, Nat.reduceEqDiff, Nat.zero_add, hd1, ke, kg, pk, pm, b02, b12, b20, mset2, b10, b00, not_true_eq_false, not_false_eq_true, true_implies, false_implies, implies_true, and_true, true_and, Nat.le_refl, true_or, or_true, eq_self, List.length_cons, List.length_nil, Nat.reduceAdd, Nat.reduceLT, Nat.reduceLeDiff]
      refine ⟨fun y3 => ?_, fun y3 => ?_⟩
      case refine_2 =>
        rw [pl0, aRepl_full (fun z => y3 (x3.mpr (vi.mp z)))] at hp
        exact hp h ⟨v, a, hM, hL⟩ mKeep_rfl
      have vv := vi.mpr (x3.mp y3)
      rw [pl0, aRepl_some vv] at hp
      refine n_zero (by omega) hI hM hL hf (by omega) (fun h1 v1 a1 hM1 hL1 hN1 hk1 => ?_)
      simp (disch := omega) only [↓EVi, ↓EVc, ↓ft_X7_swap, ↓reduceIte, ↓EV_obs, ↓EV_obn, ↓EV_ais, ↓EV_ain, ↓EV_ob hM1.1, mdF, mRun, List.mem_cons, List.not_mem_nil, or_false, mtab_eq, Nat.reduceEqDiff, Nat.zero_add, hd1, ke, kg, pk, pm, b02, b12, b20, mset2, b10, b00, not_true_eq_false, not_false_eq_true, true_implies, false_implies, implies_true, and_true, true_and, Nat.le_refl, true_or, or_true, eq_self, List.length_cons, List.length_nil, Nat.reduceAdd, Nat.reduceLT, Nat.reduceLeDiff]
      refine m_adds ?_
      simp (disch := omega) only [↓EVi, ↓EVc, ↓ft_X7_swap, ↓reduceIte, ↓EV_obs, ↓EV_obn, ↓EV_ais, ↓EV_ain, ↓EV_ob hM1.1, mdF, mRun, List.mem_cons, List.not_mem_nil, or_false, mtab_eq, Nat.reduceEqDiff, Nat.zero_add, hd1, ke, kg, pk, pm, b02, b12, b20, mset2, b10, b00, not_true_eq_false, not_false_eq_true, true_implies, false_implies, implies_true, and_true, true_and, Nat.le_refl, true_or, or_true, eq_self, List.length_cons, List.length_nil, Nat.reduceAdd, Nat.reduceLT, Nat.reduceLeDiff]
      refine n_put (k := 2) (p := evP (S.1.getD f []) (i + 1)) hM1 hL1 hN1 (by simp only [List.length_append, List.length_take, List.length_cons, List.length_nil]; omega) rfl (by simp (disch := omega) only [z_nI, z_lit, z_neg, z_add, z_sub, z_mul, z_lt, z_le, z_eq, z_in, z_cl]; omega) (fun h2 v2 a2 hM2 hL2 hN2 hk2 => ?_)
      simp (disch := omega) only [↓EVi, ↓EVc, ↓ft_X7_swap, ↓reduceIte, ↓EV_obs, ↓EV_obn, ↓EV_ais, ↓EV_ain, ↓EV_ob hM2.1, mdF, mRun, List.mem_cons, List.not_mem_nil, or_false, mtab_eq, Nat.reduceEqDiff, Nat.zero_add, hd1, ke, kg, pk, pm, b02, b12, b20, mset2, b10, b00, not_true_eq_false, not_false_eq_true, true_implies, false_implies, implies_true, and_true, true_and, Nat.le_refl, true_or, or_true, eq_self, List.length_cons, List.length_nil, Nat.reduceAdd, Nat.reduceLT, Nat.reduceLeDiff]
      refine n_put (k := 1) hM2 hL2 hN2 (by simp only [List.length_append, List.length_take, List.length_cons, List.length_nil]; omega) rfl rfl (fun h3 v3 a3 hM3 hL3 hN3 hk3 => ?_)
      simp (disch := omega) only [↓EVi, ↓EVc, ↓ft_X7_swap, ↓reduceIte, ↓EV_obs, ↓EV_obn, ↓EV_ais, ↓EV_ain, ↓EV_ob hM3.1, mdF, mRun, List.mem_cons, List.not_mem_nil, or_false, mtab_eq, Nat.reduceEqDiff, Nat.zero_add, hd1, ke, kg, pk, pm, b02, b12, b20, mset2, b10, b00, not_true_eq_false, not_false_eq_true, true_implies, false_implies, implies_true, and_true, true_and, Nat.le_refl, true_or, or_true, eq_self, List.length_cons, List.length_nil, Nat.reduceAdd, Nat.reduceLT, Nat.reduceLeDiff]
      refine n_rest (j := i + 2) (by omega) hI hM3 hL3 hN3 hf (nI_add i 2) (by omega) ?_ (fun h9 hR9 hk9 => ?_)
      · have := (vld_bd vv).1
        simp only [repl, List.length_append, List.length_take, List.length_drop, List.length_cons, List.length_nil] at this ⊢
        omega
      simp (disch := omega) only [↓EVi, ↓EVc, ↓ft_X7_swap, ↓reduceIte, ↓EV_obs, ↓EV_obn, ↓EV_ais, ↓EV_ain, mdF, mRun, List.mem_cons, List.not_mem_nil, or_false, mtab_eq, Nat.reduceEqDiff, Nat.zero_add, hd1, mset2, b10, b00, not_true_eq_false, not_false_eq_true, true_implies, false_implies, implies_true, and_true, true_and, Nat.le_refl, true_or, or_true, eq_self, List.length_cons, List.length_nil, Nat.reduceAdd, Nat.reduceLT, Nat.reduceLeDiff]
      have key := hp h9 (by simpa only [repl, List.append_assoc, List.cons_append, List.nil_append, List.append_nil] using hR9) (mKeep_trans (mKeep_trans (mKeep_trans hk1 hk2) hk3) hk9)
      simpa only [repl, List.append_assoc, List.cons_append, List.nil_append, List.append_nil] using key
  · have ke : kA (S.1.getD f []) i = 2 := by unfold kA; rw [if_pos hi, he]; rfl
    have kg : kA (S.1.getD f []) (i + 1) = 0 := by unfold kA; rw [if_pos hl, hg]; rfl
    rw [he, hg] at pl0
    simp only [subA, stp] at pl0
    simp only [↓reduceIte, Nat.reduceEqDiff, Nat.add_zero] at pl0
    rw [hg] at sw
    refine c_kindAt hM hs (by omega) b.1 (by omega) ?_
    simp (disch := omega) only [↓EVi, ↓EVc, ↓ft_X7_swap, ↓reduceIte, ↓EV_obs, ↓EV_obn, ↓EV_ais, ↓EV_ain, ↓EV_ob h0, mdF, mRun, List.mem_cons, List.not_mem_nil, or_false, mtab_eq, Nat.reduceEqDiff, Nat.zero_add, hd1, ke, kg, pk, pm, b02, b12, b20, mset2, b10, b00, not_true_eq_false, not_false_eq_true, true_implies, false_implies, implies_true, and_true, true_and, Nat.le_refl, true_or, or_true, eq_self, List.length_cons, List.length_nil, Nat.reduceAdd, Nat.reduceLT, Nat.reduceLeDiff]
    rw [nI_1]
    refine c_kindAt hM hs (by omega) b.1 (by omega) ?_
    simp (disch := omega) only [↓EVi, ↓EVc, ↓ft_X7_swap, ↓reduceIte, ↓EV_obs, ↓EV_obn, ↓EV_ais, ↓EV_ain, ↓EV_ob h0, mdF, mRun, List.mem_cons, List.not_mem_nil, or_false, mtab_eq, Nat.reduceEqDiff, Nat.zero_add, hd1, ke, kg, pk, pm, b02, b12, b20, mset2, b10, b00, not_true_eq_false, not_false_eq_true, true_implies, false_implies, implies_true, and_true, true_and, Nat.le_refl, true_or, or_true, eq_self, List.length_cons, List.length_nil, Nat.reduceAdd, Nat.reduceLT, Nat.reduceLeDiff]
    refine c_numberAt hM hs (by omega) b.1 (by omega) ?_
    simp (disch := omega) only [↓EVi, ↓EVc, ↓ft_X7_swap, ↓reduceIte, ↓EV_obs, ↓EV_obn, ↓EV_ais, ↓EV_ain, ↓EV_ob h0, mdF, mRun, List.mem_cons, List.not_mem_nil, or_false, mtab_eq, Nat.reduceEqDiff, Nat.zero_add, hd1, ke, kg, pk, pm, b02, b12, b20, mset2, b10, b00, not_true_eq_false, not_false_eq_true, true_implies, false_implies, implies_true, and_true, true_and, Nat.le_refl, true_or, or_true, eq_self, List.length_cons, List.length_nil, Nat.reduceAdd, Nat.reduceLT, Nat.reduceLeDiff]
    rw [nI_1]
    refine c_numberAt hM hs (by omega) b.1 (by omega) ?_
    simp (disch := omega) only [↓EVi, ↓EVc, ↓ft_X7_swap, ↓reduceIte, ↓EV_obs, ↓EV_obn, ↓EV_ais, ↓EV_ain, ↓EV_ob h0, mdF, mRun, List.mem_cons, List.not_mem_nil, or_false, mtab_eq, Nat.reduceEqDiff, Nat.zero_add, hd1, ke, kg, pk, pm, b02, b12, b20, mset2, b10, b00, not_true_eq_false, not_false_eq_true, true_implies, false_implies, implies_true, and_true, true_and, Nat.le_refl, true_or, or_true, eq_self, List.length_cons, List.length_nil, Nat.reduceAdd, Nat.reduceLT, Nat.reduceLeDiff]
    have x1 : (nI (evP (S.1.getD f []) (i + 1)) < nI (evP (S.1.getD f []) i) + 0) ↔ ¬ evP (S.1.getD f []) i + 0 ≤ evP (S.1.getD f []) (i + 1) := by simp (disch := omega) only [z_nI, z_lit, z_neg, z_add, z_sub, z_mul, z_lt, z_le, z_eq, z_in, z_cl]; omega
    have x2 : (nI (evP (S.1.getD f []) (i + 1)) + 0 ≤ nI (evP (S.1.getD f []) i)) ↔ evP (S.1.getD f []) (i + 1) + 0 ≤ evP (S.1.getD f []) i := by simp (disch := omega) only [z_nI, z_lit, z_neg, z_add, z_sub, z_mul, z_lt, z_le, z_eq, z_in, z_cl]; omega
    have x3 : (nI (ahL ((S.1.getD f []).take i)) + 2 ≤ 10) ↔ ((0 : Nat) = 0 → ahL ((S.1.getD f []).take i) + 2 ≤ 10) := by simp (disch := omega) only [z_nI, z_lit, z_neg, z_add, z_sub, z_mul, z_lt, z_le, z_eq, z_in, z_cl]; exact ⟨fun q _ => by omega, fun q => by have := q trivial; omega⟩
    refine ⟨fun y1 => ⟨fun y2 => ?_, fun y2 => none_ ?_⟩, fun y1 => ?_⟩
    · rw [if_neg (fun z => x1.mp y1 (by omega)), if_pos (by have := x2.mp y2; omega)] at pl0
      have z2 := x2.mp y2
      obtain ⟨gg, vi⟩ := sw _ _ pl0
      refine m_ahead (by omega) hM hs hw.1 (by omega) (by omega) ?_
      simp (disch := omega) only [↓EVi, ↓EVc, ↓ft_X7_swap, ↓reduceIte, ↓EV_obs, ↓EV_obn, ↓EV_ais, ↓EV_ain, ↓EV_ob h0, mdF, mRun, List.mem_cons, List.not_mem_nil, or_false, mtab_eq, Nat.reduceEqDiff, Nat.zero_add, hd1, ke, kg, pk, pm, b02, b12, b20, mset2, b10, b00, not_true_eq_false, not_false_eq_true, true_implies, false_implies, implies_true, and_true, true_and, Nat.le_refl, true_or, or_true, eq_self, List.length_cons, List.length_nil, Nat.reduceAdd, Nat.reduceLT, Nat.reduceLeDiff]
      refine m_adds ?_
      simp (disch := omega) only [↓EVi, ↓EVc, ↓ft_X7_swap, ↓reduceIte, ↓EV_obs, ↓EV_obn, ↓EV_ais, ↓EV_ain, ↓EV_ob h0, mdF, mRun, List.mem_cons, List.not_mem_nil, or_false, mtab_eq, Nat.reduceEqDiff, Nat.zero_add, hd1, ke, kg, pk, pm, b02, b12, b20, mset2, b10, b00, not_true_eq_false, not_false_eq_true, true_implies, false_implies, implies_true, and_true, true_and, Nat.le_refl, true_or, or_true, eq_self, List.length_cons, List.length_nil, Nat.reduceAdd, Nat.reduceLT, Nat.reduceLeDiff]
      refine ⟨fun y3 => ?_, fun y3 => ?_⟩
      case refine_2 =>
        rw [pl0, aRepl_full (fun z => y3 (x3.mpr (vi.mp z)))] at hp
        exact hp h ⟨v, a, hM, hL⟩ mKeep_rfl
      have vv := vi.mpr (x3.mp y3)
      rw [pl0, aRepl_some vv] at hp
      refine n_zero (by omega) hI hM hL hf (by omega) (fun h1 v1 a1 hM1 hL1 hN1 hk1 => ?_)
      simp (disch := omega) only [↓EVi, ↓EVc, ↓ft_X7_swap, ↓reduceIte, ↓EV_obs, ↓EV_obn, ↓EV_ais, ↓EV_ain, ↓EV_ob hM1.1, mdF, mRun, List.mem_cons, List.not_mem_nil, or_false, mtab_eq, Nat.reduceEqDiff, Nat.zero_add, hd1, ke, kg, pk, pm, b02, b12, b20, mset2, b10, b00, not_true_eq_false, not_false_eq_true, true_implies, false_implies, implies_true, and_true, true_and, Nat.le_refl, true_or, or_true, eq_self, List.length_cons, List.length_nil, Nat.reduceAdd, Nat.reduceLT, Nat.reduceLeDiff]
      refine n_put (k := 0) hM1 hL1 hN1 (by simp only [List.length_append, List.length_take, List.length_cons, List.length_nil]; omega) rfl rfl (fun h2 v2 a2 hM2 hL2 hN2 hk2 => ?_)
      simp (disch := omega) only [↓EVi, ↓EVc, ↓ft_X7_swap, ↓reduceIte, ↓EV_obs, ↓EV_obn, ↓EV_ais, ↓EV_ain, ↓EV_ob hM2.1, mdF, mRun, List.mem_cons, List.not_mem_nil, or_false, mtab_eq, Nat.reduceEqDiff, Nat.zero_add, hd1, ke, kg, pk, pm, b02, b12, b20, mset2, b10, b00, not_true_eq_false, not_false_eq_true, true_implies, false_implies, implies_true, and_true, true_and, Nat.le_refl, true_or, or_true, eq_self, List.length_cons, List.length_nil, Nat.reduceAdd, Nat.reduceLT, Nat.reduceLeDiff]
      refine m_adds ?_
      simp (disch := omega) only [↓EVi, ↓EVc, ↓ft_X7_swap, ↓reduceIte, ↓EV_obs, ↓EV_obn, ↓EV_ais, ↓EV_ain, ↓EV_ob hM2.1, mdF, mRun, List.mem_cons, List.not_mem_nil, or_false, mtab_eq, Nat.reduceEqDiff, Nat.zero_add, hd1, ke, kg, pk, pm, b02, b12, b20, mset2, b10, b00, not_true_eq_false, not_false_eq_true, true_implies, false_implies, implies_true, and_true, true_and, Nat.le_refl, true_or, or_true, eq_self, List.length_cons, List.length_nil, Nat.reduceAdd, Nat.reduceLT, Nat.reduceLeDiff]
      refine n_put (k := 2) (p := evP (S.1.getD f []) i + 2) hM2 hL2 hN2 (by simp only [List.length_append, List.length_take, List.length_cons, List.length_nil]; omega) rfl (by simp (disch := omega) only [z_nI, z_lit, z_neg, z_add, z_sub, z_mul, z_lt, z_le, z_eq, z_in, z_cl]; omega) (fun h3 v3 a3 hM3 hL3 hN3 hk3 => ?_)
      simp (disch := omega) only [↓EVi, ↓EVc, ↓ft_X7_swap, ↓reduceIte, ↓EV_obs, ↓EV_obn, ↓EV_ais, ↓EV_ain, ↓EV_ob hM3.1, mdF, mRun, List.mem_cons, List.not_mem_nil, or_false, mtab_eq, Nat.reduceEqDiff, Nat.zero_add, hd1, ke, kg, pk, pm, b02, b12, b20, mset2, b10, b00, not_true_eq_false, not_false_eq_true, true_implies, false_implies, implies_true, and_true, true_and, Nat.le_refl, true_or, or_true, eq_self, List.length_cons, List.length_nil, Nat.reduceAdd, Nat.reduceLT, Nat.reduceLeDiff]
      refine n_rest (j := i + 2) (by omega) hI hM3 hL3 hN3 hf (nI_add i 2) (by omega) ?_ (fun h9 hR9 hk9 => ?_)
      · have := (vld_bd vv).1
        simp only [repl, List.length_append, List.length_take, List.length_drop, List.length_cons, List.length_nil] at this ⊢
        omega
      simp (disch := omega) only [↓EVi, ↓EVc, ↓ft_X7_swap, ↓reduceIte, ↓EV_obs, ↓EV_obn, ↓EV_ais, ↓EV_ain, mdF, mRun, List.mem_cons, List.not_mem_nil, or_false, mtab_eq, Nat.reduceEqDiff, Nat.zero_add, hd1, mset2, b10, b00, not_true_eq_false, not_false_eq_true, true_implies, false_implies, implies_true, and_true, true_and, Nat.le_refl, true_or, or_true, eq_self, List.length_cons, List.length_nil, Nat.reduceAdd, Nat.reduceLT, Nat.reduceLeDiff]
      have key := hp h9 (by simpa only [repl, List.append_assoc, List.cons_append, List.nil_append, List.append_nil] using hR9) (mKeep_trans (mKeep_trans (mKeep_trans hk1 hk2) hk3) hk9)
      simpa only [repl, List.append_assoc, List.cons_append, List.nil_append, List.append_nil] using key
    · rw [pl0, if_neg (fun z => x1.mp y1 (by omega)), if_neg (fun z => y2 (x2.mpr (by omega)))]
    · have z1 : evP (S.1.getD f []) i + 0 ≤ evP (S.1.getD f []) (i + 1) := Classical.not_not.mp (fun z => y1 (x1.mpr z))
      rw [if_pos (by omega)] at pl0
      obtain ⟨gg, vi⟩ := sw _ _ pl0
      refine m_ahead (by omega) hM hs hw.1 (by omega) (by omega) ?_
      simp (disch := omega) only [↓EVi, ↓EVc, ↓ft_X7_swap, ↓reduceIte, ↓EV_obs, ↓EV_obn, ↓EV_ais, ↓EV_ain, ↓EV_ob h0, mdF, mRun, List.mem_cons, List.not_mem_nil, or_false, mtab_eq, Nat.reduceEqDiff, Nat.zero_add, hd1, ke, kg, pk, pm, b02, b12, b20, mset2, b10, b00, not_true_eq_false, not_false_eq_true, true_implies, false_implies, implies_true, and_true, true_and, Nat.le_refl, true_or, or_true, eq_self, List.length_cons, List.length_nil, Nat.reduceAdd, Nat.reduceLT, Nat.reduceLeDiff]
      refine m_adds ?_
      simp (disch := omega) only [↓EVi, ↓EVc, ↓ft_X7_swap, ↓reduceIte, ↓EV_obs, ↓EV_obn, ↓EV_ais, ↓EV_ain, ↓EV_ob h0, mdF, mRun, List.mem_cons, List.not_mem_nil, or_false, mtab_eq, Nat.reduceEqDiff, Nat.zero_add, hd1, ke, kg, pk, pm, b02, b12, b20, mset2, b10, b00, not_true_eq_false, not_false_eq_true, true_implies, false_implies, implies_true, and_true, true_and, Nat.le_refl, true_or, or_true, eq_self, List.length_cons, List.length_nil, Nat.reduceAdd, Nat.reduceLT, Nat.reduceLeDiff]
      refine ⟨fun y3 => ?_, fun y3 => ?_⟩
      case refine_2 =>
        rw [pl0, aRepl_full (fun z => y3 (x3.mpr (vi.mp z)))] at hp
        exact hp h ⟨v, a, hM, hL⟩ mKeep_rfl
      have vv := vi.mpr (x3.mp y3)
      rw [pl0, aRepl_some vv] at hp
      refine n_zero (by omega) hI hM hL hf (by omega) (fun h1 v1 a1 hM1 hL1 hN1 hk1 => ?_)
      simp (disch := omega) only [↓EVi, ↓EVc, ↓ft_X7_swap, ↓reduceIte, ↓EV_obs, ↓EV_obn, ↓EV_ais, ↓EV_ain, ↓EV_ob hM1.1, mdF, mRun, List.mem_cons, List.not_mem_nil, or_false, mtab_eq, Nat.reduceEqDiff, Nat.zero_add, hd1, ke, kg, pk, pm, b02, b12, b20, mset2, b10, b00, not_true_eq_false, not_false_eq_true, true_implies, false_implies, implies_true, and_true, true_and, Nat.le_refl, true_or, or_true, eq_self, List.length_cons, List.length_nil, Nat.reduceAdd, Nat.reduceLT, Nat.reduceLeDiff]
      refine m_adds ?_
      simp (disch := omega) only [↓EVi, ↓EVc, ↓ft_X7_swap, ↓reduceIte, ↓EV_obs, ↓EV_obn, ↓EV_ais, ↓EV_ain, ↓EV_ob hM1.1, mdF, mRun, List.mem_cons, List.not_mem_nil, or_false, mtab_eq, Nat.reduceEqDiff, Nat.zero_add, hd1, ke, kg, pk, pm, b02, b12, b20, mset2, b10, b00, not_true_eq_false, not_false_eq_true, true_implies, false_implies, implies_true, and_true, true_and, Nat.le_refl, true_or, or_true, eq_self, List.length_cons, List.length_nil, Nat.reduceAdd, Nat.reduceLT, Nat.reduceLeDiff]
      refine n_put (k := 0) (p := evP (S.1.getD f []) (i + 1) + 2) hM1 hL1 hN1 (by simp only [List.length_append, List.length_take, List.length_cons, List.length_nil]; omega) rfl (by simp (disch := omega) only [z_nI, z_lit, z_neg, z_add, z_sub, z_mul, z_lt, z_le, z_eq, z_in, z_cl]; omega) (fun h2 v2 a2 hM2 hL2 hN2 hk2 => ?_)
      simp (disch := omega) only [↓EVi, ↓EVc, ↓ft_X7_swap, ↓reduceIte, ↓EV_obs, ↓EV_obn, ↓EV_ais, ↓EV_ain, ↓EV_ob hM2.1, mdF, mRun, List.mem_cons, List.not_mem_nil, or_false, mtab_eq, Nat.reduceEqDiff, Nat.zero_add, hd1, ke, kg, pk, pm, b02, b12, b20, mset2, b10, b00, not_true_eq_false, not_false_eq_true, true_implies, false_implies, implies_true, and_true, true_and, Nat.le_refl, true_or, or_true, eq_self, List.length_cons, List.length_nil, Nat.reduceAdd, Nat.reduceLT, Nat.reduceLeDiff]
      refine n_put (k := 2) hM2 hL2 hN2 (by simp only [List.length_append, List.length_take, List.length_cons, List.length_nil]; omega) rfl rfl (fun h3 v3 a3 hM3 hL3 hN3 hk3 => ?_)
      simp (disch := omega) only [↓EVi, ↓EVc, ↓ft_X7_swap, ↓reduceIte, ↓EV_obs, ↓EV_obn, ↓EV_ais, ↓EV_ain, ↓EV_ob hM3.1, mdF, mRun, List.mem_cons, List.not_mem_nil, or_false, mtab_eq, Nat.reduceEqDiff, Nat.zero_add, hd1, ke, kg, pk, pm, b02, b12, b20, mset2, b10, b00, not_true_eq_false, not_false_eq_true, true_implies, false_implies, implies_true, and_true, true_and, Nat.le_refl, true_or, or_true, eq_self, List.length_cons, List.length_nil, Nat.reduceAdd, Nat.reduceLT, Nat.reduceLeDiff]
      refine n_rest (j := i + 2) (by omega) hI hM3 hL3 hN3 hf (nI_add i 2) (by omega) ?_ (fun h9 hR9 hk9 => ?_)
      · have := (vld_bd vv).1
        simp only [repl, List.length_append, List.length_take, List.length_drop, List.length_cons, List.length_nil] at this ⊢
        omega
      simp (disch := omega) only [↓EVi, ↓EVc, ↓ft_X7_swap, ↓reduceIte, ↓EV_obs, ↓EV_obn, ↓EV_ais, ↓EV_ain, mdF, mRun, List.mem_cons, List.not_mem_nil, or_false, mtab_eq, Nat.reduceEqDiff, Nat.zero_add, hd1, mset2, b10, b00, not_true_eq_false, not_false_eq_true, true_implies, false_implies, implies_true, and_true, true_and, Nat.le_refl, true_or, or_true, eq_self, List.length_cons, List.length_nil, Nat.reduceAdd, Nat.reduceLT, Nat.reduceLeDiff]
      have key := hp h9 (by simpa only [repl, List.append_assoc, List.cons_append, List.nil_append, List.append_nil] using hR9) (mKeep_trans (mKeep_trans (mKeep_trans hk1 hk2) hk3) hk9)
      simpa only [repl, List.append_assoc, List.cons_append, List.nil_append, List.append_nil] using key
  · have ke : kA (S.1.getD f []) i = 2 := by unfold kA; rw [if_pos hi, he]; rfl
    have kg : kA (S.1.getD f []) (i + 1) = 1 := by unfold kA; rw [if_pos hl, hg]; rfl
    rw [he, hg] at pl0
    simp only [subA, stp] at pl0
    simp only [↓reduceIte, Nat.reduceEqDiff, Nat.add_zero] at pl0
    rw [hg] at sw
    refine c_kindAt hM hs (by omega) b.1 (by omega) ?_
    simp (disch := omega) only [↓EVi, ↓EVc, ↓ft_X7_swap, ↓reduceIte, ↓EV_obs, ↓EV_obn, ↓EV_ais, ↓EV_ain, ↓EV_ob h0, mdF, mRun, List.mem_cons, List.not_mem_nil, or_false, mtab_eq, Nat.reduceEqDiff, Nat.zero_add, hd1, ke, kg, pk, pm, b02, b12, b20, mset2, b10, b00, not_true_eq_false, not_false_eq_true, true_implies, false_implies, implies_true, and_true, true_and, Nat.le_refl, true_or, or_true, eq_self, List.length_cons, List.length_nil, Nat.reduceAdd, Nat.reduceLT, Nat.reduceLeDiff]
    rw [nI_1]
    refine c_kindAt hM hs (by omega) b.1 (by omega) ?_
    simp (disch := omega) only [↓EVi, ↓EVc, ↓ft_X7_swap, ↓reduceIte, ↓EV_obs, ↓EV_obn, ↓EV_ais, ↓EV_ain, ↓EV_ob h0, mdF, mRun, List.mem_cons, List.not_mem_nil, or_false, mtab_eq, Nat.reduceEqDiff, Nat.zero_add, hd1, ke, kg, pk, pm, b02, b12, b20, mset2, b10, b00, not_true_eq_false, not_false_eq_true, true_implies, false_implies, implies_true, and_true, true_and, Nat.le_refl, true_or, or_true, eq_self, List.length_cons, List.length_nil, Nat.reduceAdd, Nat.reduceLT, Nat.reduceLeDiff]
    refine c_numberAt hM hs (by omega) b.1 (by omega) ?_
    simp (disch := omega) only [↓EVi, ↓EVc, ↓ft_X7_swap, ↓reduceIte, ↓EV_obs, ↓EV_obn, ↓EV_ais, ↓EV_ain, ↓EV_ob h0, mdF, mRun, List.mem_cons, List.not_mem_nil, or_false, mtab_eq, Nat.reduceEqDiff, Nat.zero_add, hd1, ke, kg, pk, pm, b02, b12, b20, mset2, b10, b00, not_true_eq_false, not_false_eq_true, true_implies, false_implies, implies_true, and_true, true_and, Nat.le_refl, true_or, or_true, eq_self, List.length_cons, List.length_nil, Nat.reduceAdd, Nat.reduceLT, Nat.reduceLeDiff]
    rw [nI_1]
    refine c_numberAt hM hs (by omega) b.1 (by omega) ?_
    simp (disch := omega) only [↓EVi, ↓EVc, ↓ft_X7_swap, ↓reduceIte, ↓EV_obs, ↓EV_obn, ↓EV_ais, ↓EV_ain, ↓EV_ob h0, mdF, mRun, List.mem_cons, List.not_mem_nil, or_false, mtab_eq, Nat.reduceEqDiff, Nat.zero_add, hd1, ke, kg, pk, pm, b02, b12, b20, mset2, b10, b00, not_true_eq_false, not_false_eq_true, true_implies, false_implies, implies_true, and_true, true_and, Nat.le_refl, true_or, or_true, eq_self, List.length_cons, List.length_nil, Nat.reduceAdd, Nat.reduceLT, Nat.reduceLeDiff]
    have x1 : (nI (evP (S.1.getD f []) (i + 1)) < nI (evP (S.1.getD f []) i) + 0) ↔ ¬ evP (S.1.getD f []) i + 0 ≤ evP (S.1.getD f []) (i + 1) := by simp (disch := omega) only [z_nI, z_lit, z_neg, z_add, z_sub, z_mul, z_lt, z_le, z_eq, z_in, z_cl]; omega
    have x2 : (nI (evP (S.1.getD f []) (i + 1)) + 2 ≤ nI (evP (S.1.getD f []) i)) ↔ evP (S.1.getD f []) (i + 1) + 2 ≤ evP (S.1.getD f []) i := by simp (disch := omega) only [z_nI, z_lit, z_neg, z_add, z_sub, z_mul, z_lt, z_le, z_eq, z_in, z_cl]; omega
    have x3 : (nI (ahL ((S.1.getD f []).take i)) + 0 ≤ 10) ↔ ((1 : Nat) = 0 → ahL ((S.1.getD f []).take i) + 2 ≤ 10) := by simp (disch := omega) only [z_nI, z_lit, z_neg, z_add, z_sub, z_mul, z_lt, z_le, z_eq, z_in, z_cl]; exact ⟨fun _ z => absurd z (by decide), fun _ => by omega⟩
    refine ⟨fun y1 => ⟨fun y2 => ?_, fun y2 => none_ ?_⟩, fun y1 => ?_⟩
    · rw [if_neg (fun z => x1.mp y1 (by omega)), if_pos (by have := x2.mp y2; omega)] at pl0
      have z2 := x2.mp y2
      obtain ⟨gg, vi⟩ := sw _ _ pl0
      refine m_ahead (by omega) hM hs hw.1 (by omega) (by omega) ?_
      simp (disch := omega) only [↓EVi, ↓EVc, ↓ft_X7_swap, ↓reduceIte, ↓EV_obs, ↓EV_obn, ↓EV_ais, ↓EV_ain, ↓EV_ob h0, mdF, mRun, List.mem_cons, List.not_mem_nil, or_false, mtab_eq, Nat.reduceEqDiff, Nat.zero_add, hd1, ke, kg, pk, pm, b02, b12, b20, mset2, b10, b00, not_true_eq_false, not_false_eq_true, true_implies, false_implies, implies_true, and_true, true_and, Nat.le_refl, true_or, or_true, eq_self, List.length_cons, List.length_nil, Nat.reduceAdd, Nat.reduceLT, Nat.reduceLeDiff]
      refine m_adds ?_
      simp (disch := omega) only [↓EVi, ↓EVc, ↓ft_X7_swap, ↓reduceIte, ↓EV_obs, ↓EV_obn, ↓EV_ais, ↓EV_ain, ↓EV_ob h0, mdF, mRun, List.mem_cons, List.not_mem_nil, or_false, mtab_eq, Nat.reduceEqDiff, Nat.zero_add, hd1, ke, kg, pk, pm, b02, b12, b20, mset2, b10, b00, not_true_eq_false, not_false_eq_true, true_implies, false_implies, implies_true, and_true, true_and, Nat.le_refl, true_or, or_true, eq_self, List.length_cons, List.length_nil, Nat.reduceAdd, Nat.reduceLT, Nat.reduceLeDiff]
      refine ⟨fun y3 => ?_, fun y3 => ?_⟩
      case refine_2 =>
        rw [pl0, aRepl_full (fun z => y3 (x3.mpr (vi.mp z)))] at hp
        exact hp h ⟨v, a, hM, hL⟩ mKeep_rfl
      have vv := vi.mpr (x3.mp y3)
      rw [pl0, aRepl_some vv] at hp
      refine n_zero (by omega) hI hM hL hf (by omega) (fun h1 v1 a1 hM1 hL1 hN1 hk1 => ?_)
      simp (disch := omega) only [↓EVi, ↓EVc, ↓ft_X7_swap, ↓reduceIte, ↓EV_obs, ↓EV_obn, ↓EV_ais, ↓EV_ain, ↓EV_ob hM1.1, mdF, mRun, List.mem_cons, List.not_mem_nil, or_false, mtab_eq, Nat.reduceEqDiff, Nat.zero_add, hd1, ke, kg, pk, pm, b02, b12, b20, mset2, b10, b00, not_true_eq_false, not_false_eq_true, true_implies, false_implies, implies_true, and_true, true_and, Nat.le_refl, true_or, or_true, eq_self, List.length_cons, List.length_nil, Nat.reduceAdd, Nat.reduceLT, Nat.reduceLeDiff]
      refine n_put (k := 1) hM1 hL1 hN1 (by simp only [List.length_append, List.length_take, List.length_cons, List.length_nil]; omega) rfl rfl (fun h2 v2 a2 hM2 hL2 hN2 hk2 => ?_)
      simp (disch := omega) only [↓EVi, ↓EVc, ↓ft_X7_swap, ↓reduceIte, ↓EV_obs, ↓EV_obn, ↓EV_ais, ↓EV_ain, ↓EV_ob hM2.1, mdF, mRun, List.mem_cons, List.not_mem_nil, or_false, mtab_eq, Nat.reduceEqDiff, Nat.zero_add, hd1, ke, kg, pk, pm, b02, b12, b20, mset2, b10, b00, not_true_eq_false, not_false_eq_true, true_implies, false_implies, implies_true, and_true, true_and, Nat.le_refl, true_or, or_true, eq_self, List.length_cons, List.length_nil, Nat.reduceAdd, Nat.reduceLT, Nat.reduceLeDiff]
      refine m_adds ?_
      simp (disch := omega) only [↓EVi, ↓EVc, ↓ft_X7_swap, ↓reduceIte, ↓EV_obs, ↓EV_obn, ↓EV_ais, ↓EV_ain, ↓EV_ob hM2.1, mdF, mRun, List.mem_cons, List.not_mem_nil, or_false, mtab_eq, Nat.reduceEqDiff, Nat.zero_add, hd1, ke, kg, pk, pm, b02, b12, b20, mset2, b10, b00, not_true_eq_false, not_false_eq_true, true_implies, false_implies, implies_true, and_true, true_and, Nat.le_refl, true_or, or_true, eq_self, List.length_cons, List.length_nil, Nat.reduceAdd, Nat.reduceLT, Nat.reduceLeDiff]
      refine n_put (k := 2) (p := evP (S.1.getD f []) i) hM2 hL2 hN2 (by simp only [List.length_append, List.length_take, List.length_cons, List.length_nil]; omega) rfl (by simp (disch := omega) only [z_nI, z_lit, z_neg, z_add, z_sub, z_mul, z_lt, z_le, z_eq, z_in, z_cl]; omega) (fun h3 v3 a3 hM3 hL3 hN3 hk3 => ?_)
      simp (disch := omega) only [↓EVi, ↓EVc, ↓ft_X7_swap, ↓reduceIte, ↓EV_obs, ↓EV_obn, ↓EV_ais, ↓EV_ain, ↓EV_ob hM3.1, mdF, mRun, List.mem_cons, List.not_mem_nil, or_false, mtab_eq, Nat.reduceEqDiff, Nat.zero_add, hd1, ke, kg, pk, pm, b02, b12, b20, mset2, b10, b00, not_true_eq_false, not_false_eq_true, true_implies, false_implies, implies_true, and_true, true_and, Nat.le_refl, true_or, or_true, eq_self, List.length_cons, List.length_nil, Nat.reduceAdd, Nat.reduceLT, Nat.reduceLeDiff]
      refine n_rest (j := i + 2) (by omega) hI hM3 hL3 hN3 hf (nI_add i 2) (by omega) ?_ (fun h9 hR9 hk9 => ?_)
      · have := (vld_bd vv).1
        simp only [repl, List.length_append, List.length_take, List.length_drop, List.length_cons, List.length_nil] at this ⊢
        omega
      simp (disch := omega) only [↓EVi, ↓EVc, ↓ft_X7_swap, ↓reduceIte, ↓EV_obs, ↓EV_obn, ↓EV_ais, ↓EV_ain, mdF, mRun, List.mem_cons, List.not_mem_nil, or_false, mtab_eq, Nat.reduceEqDiff, Nat.zero_add, hd1, mset2, b10, b00, not_true_eq_false, not_false_eq_true, true_implies, false_implies, implies_true, and_true, true_and, Nat.le_refl, true_or, or_true, eq_self, List.length_cons, List.length_nil, Nat.reduceAdd, Nat.reduceLT, Nat.reduceLeDiff]
      have key := hp h9 (by simpa only [repl, List.append_assoc, List.cons_append, List.nil_append, List.append_nil] using hR9) (mKeep_trans (mKeep_trans (mKeep_trans hk1 hk2) hk3) hk9)
      simpa only [repl, List.append_assoc, List.cons_append, List.nil_append, List.append_nil] using key
    · rw [pl0, if_neg (fun z => x1.mp y1 (by omega)), if_neg (fun z => y2 (x2.mpr (by omega)))]
    · have z1 : evP (S.1.getD f []) i + 0 ≤ evP (S.1.getD f []) (i + 1) := Classical.not_not.mp (fun z => y1 (x1.mpr z))
      rw [if_pos (by omega)] at pl0
      obtain ⟨gg, vi⟩ := sw _ _ pl0
      refine m_ahead (by omega) hM hs hw.1 (by omega) (by omega) ?_
      simp (disch := omega) only [↓EVi, ↓EVc, ↓ft_X7_swap, ↓reduceIte, ↓EV_obs, ↓EV_obn, ↓EV_ais, ↓EV_ain, ↓EV_ob h0, mdF, mRun, List.mem_cons, List.not_mem_nil, or_false, mtab_eq, Nat.reduceEqDiff, Nat.zero_add, hd1, ke, kg, pk, pm, b02, b12, b20, mset2, b10, b00, not_true_eq_false, not_false_eq_true, true_implies, false_implies, implies_true, and_true, true_and, Nat.le_refl, true_or, or_true, eq_self, List.length_cons, List.length_nil, Nat.reduceAdd, Nat.reduceLT, Nat.reduceLeDiff]
      refine m_adds ?_
      simp (disch := omega) only [↓EVi, ↓EVc, ↓ft_X7_swap, ↓reduceIte, ↓EV_obs, ↓EV_obn, ↓EV_ais, ↓EV_ain, ↓EV_ob h0, mdF, mRun, List.mem_cons, List.not_mem_nil, or_false, mtab_eq, Nat.reduceEqDiff, Nat.zero_add, hd1, ke, kg, pk, pm, b02, b12, b20, mset2, b10, b00, not_true_eq_false, not_false_eq_true, true_implies, false_implies, implies_true, and_true, true_and, Nat.le_refl, true_or, or_true, eq_self, List.length_cons, List.length_nil, Nat.reduceAdd, Nat.reduceLT, Nat.reduceLeDiff]
      refine ⟨fun y3 => ?_, fun y3 => ?_⟩
      case refine_2 =>
        rw [pl0, aRepl_full (fun z => y3 (x3.mpr (vi.mp z)))] at hp
        exact hp h ⟨v, a, hM, hL⟩ mKeep_rfl
      have vv := vi.mpr (x3.mp y3)
      rw [pl0, aRepl_some vv] at hp
      refine n_zero (by omega) hI hM hL hf (by omega) (fun h1 v1 a1 hM1 hL1 hN1 hk1 => ?_)
      simp (disch := omega) only [↓EVi, ↓EVc, ↓ft_X7_swap, ↓reduceIte, ↓EV_obs, ↓EV_obn, ↓EV_ais, ↓EV_ain, ↓EV_ob hM1.1, mdF, mRun, List.mem_cons, List.not_mem_nil, or_false, mtab_eq, Nat.reduceEqDiff, Nat.zero_add, hd1, ke, kg, pk, pm, b02, b12, b20, mset2, b10, b00, not_true_eq_false, not_false_eq_true, true_implies, false_implies, implies_true, and_true, true_and, Nat.le_refl, true_or, or_true, eq_self, List.length_cons, List.length_nil, Nat.reduceAdd, Nat.reduceLT, Nat.reduceLeDiff]
      refine m_adds ?_
      simp (disch := omega) only [↓EVi, ↓EVc, ↓ft_X7_swap, ↓reduceIte, ↓EV_obs, ↓EV_obn, ↓EV_ais, ↓EV_ain, ↓EV_ob hM1.1, mdF, mRun, List.mem_cons, List.not_mem_nil, or_false, mtab_eq, Nat.reduceEqDiff, Nat.zero_add, hd1, ke, kg, pk, pm, b02, b12, b20, mset2, b10, b00, not_true_eq_false, not_false_eq_true, true_implies, false_implies, implies_true, and_true, true_and, Nat.le_refl, true_or, or_true, eq_self, List.length_cons, List.length_nil, Nat.reduceAdd, Nat.reduceLT, Nat.reduceLeDiff]
      refine n_put (k := 1) (p := evP (S.1.getD f []) (i + 1) + 2) hM1 hL1 hN1 (by simp only [List.length_append, List.length_take, List.length_cons, List.length_nil]; omega) rfl (by simp (disch := omega) only [z_nI, z_lit, z_neg, z_add, z_sub, z_mul, z_lt, z_le, z_eq, z_in, z_cl]; omega) (fun h2 v2 a2 hM2 hL2 hN2 hk2 => ?_)
      simp (disch := omega) only [↓EVi, ↓EVc, ↓ft_X7_swap, ↓reduceIte, ↓EV_obs, ↓EV_obn, ↓EV_ais, ↓EV_ain, ↓EV_ob hM2.1, mdF, mRun, List.mem_cons, List.not_mem_nil, or_false, mtab_eq, Nat.reduceEqDiff, Nat.zero_add, hd1, ke, kg, pk, pm, b02, b12, b20, mset2, b10, b00, not_true_eq_false, not_false_eq_true, true_implies, false_implies, implies_true, and_true, true_and, Nat.le_refl, true_or, or_true, eq_self, List.length_cons, List.length_nil, Nat.reduceAdd, Nat.reduceLT, Nat.reduceLeDiff]
      refine n_put (k := 2) hM2 hL2 hN2 (by simp only [List.length_append, List.length_take, List.length_cons, List.length_nil]; omega) rfl rfl (fun h3 v3 a3 hM3 hL3 hN3 hk3 => ?_)
      simp (disch := omega) only [↓EVi, ↓EVc, ↓ft_X7_swap, ↓reduceIte, ↓EV_obs, ↓EV_obn, ↓EV_ais, ↓EV_ain, ↓EV_ob hM3.1, mdF, mRun, List.mem_cons, List.not_mem_nil, or_false, mtab_eq, Nat.reduceEqDiff, Nat.zero_add, hd1, ke, kg, pk, pm, b02, b12, b20, mset2, b10, b00, not_true_eq_false, not_false_eq_true, true_implies, false_implies, implies_true, and_true, true_and, Nat.le_refl, true_or, or_true, eq_self, List.length_cons, List.length_nil, Nat.reduceAdd, Nat.reduceLT, Nat.reduceLeDiff]
      refine n_rest (j := i + 2) (by omega) hI hM3 hL3 hN3 hf (nI_add i 2) (by omega) ?_ (fun h9 hR9 hk9 => ?_)
      · have := (vld_bd vv).1
        simp only [repl, List.length_append, List.length_take, List.length_drop, List.length_cons, List.length_nil] at this ⊢
        omega
      simp (disch := omega) only [↓EVi, ↓EVc, ↓ft_X7_swap, ↓reduceIte, ↓EV_obs, ↓EV_obn, ↓EV_ais, ↓EV_ain, mdF, mRun, List.mem_cons, List.not_mem_nil, or_false, mtab_eq, Nat.reduceEqDiff, Nat.zero_add, hd1, mset2, b10, b00, not_true_eq_false, not_false_eq_true, true_implies, false_implies, implies_true, and_true, true_and, Nat.le_refl, true_or, or_true, eq_self, List.length_cons, List.length_nil, Nat.reduceAdd, Nat.reduceLT, Nat.reduceLeDiff]
      have key := hp h9 (by simpa only [repl, List.append_assoc, List.cons_append, List.nil_append, List.append_nil] using hR9) (mKeep_trans (mKeep_trans (mKeep_trans hk1 hk2) hk3) hk9)
      simpa only [repl, List.append_assoc, List.cons_append, List.nil_append, List.append_nil] using key
  · have ke : kA (S.1.getD f []) i = 2 := by unfold kA; rw [if_pos hi, he]; rfl
    have kg : kA (S.1.getD f []) (i + 1) = 2 := by unfold kA; rw [if_pos hl, hg]; rfl
    rw [he, hg] at pl0
    simp only [subA, stp] at pl0
    simp only [↓reduceIte, Nat.reduceEqDiff, Nat.add_zero] at pl0
    rw [hg] at sw
    refine c_kindAt hM hs (by omega) b.1 (by omega) ?_
    simp (disch := omega) only [↓EVi, ↓EVc, ↓ft_X7_swap, ↓reduceIte, ↓EV_obs, ↓EV_obn, ↓EV_ais, ↓EV_ain, ↓EV_ob h0, mdF, mRun, List.mem_cons, List.not_mem_nil, or_false, mtab_eq, Nat.reduceEqDiff, Nat.zero_add, hd1, ke, kg, pk, pm, b02, b12, b20, mset2, b10, b00, not_true_eq_false, not_false_eq_true, true_implies, false_implies, implies_true, and_true, true_and, Nat.le_refl, true_or, or_true, eq_self, List.length_cons, List.length_nil, Nat.reduceAdd, Nat.reduceLT, Nat.reduceLeDiff]
    rw [nI_1]
    refine c_kindAt hM hs (by omega) b.1 (by omega) ?_
    simp (disch := omega) only [↓EVi, ↓EVc, ↓ft_X7_swap, ↓reduceIte, ↓EV_obs, ↓EV_obn, ↓EV_ais, ↓EV_ain, ↓EV_ob h0, mdF, mRun, List.mem_cons, List.not_mem_nil, or_false, mtab_eq, Nat.reduceEqDiff, Nat.zero_add, hd1, ke, kg, pk, pm, b02, b12, b20, mset2, b10, b00, not_true_eq_false, not_false_eq_true, true_implies, false_implies, implies_true, and_true, true_and, Nat.le_refl, true_or, or_true, eq_self, List.length_cons, List.length_nil, Nat.reduceAdd, Nat.reduceLT, Nat.reduceLeDiff]
    refine c_numberAt hM hs (by omega) b.1 (by omega) ?_
    simp (disch := omega) only [↓EVi, ↓EVc, ↓ft_X7_swap, ↓reduceIte, ↓EV_obs, ↓EV_obn, ↓EV_ais, ↓EV_ain, ↓EV_ob h0, mdF, mRun, List.mem_cons, List.not_mem_nil, or_false, mtab_eq, Nat.reduceEqDiff, Nat.zero_add, hd1, ke, kg, pk, pm, b02, b12, b20, mset2, b10, b00, not_true_eq_false, not_false_eq_true, true_implies, false_implies, implies_true, and_true, true_and, Nat.le_refl, true_or, or_true, eq_self, List.length_cons, List.length_nil, Nat.reduceAdd, Nat.reduceLT, Nat.reduceLeDiff]
    rw [nI_1]
    refine c_numberAt hM hs (by omega) b.1 (by omega) ?_
    simp (disch := omega) only [↓EVi, ↓EVc, ↓ft_X7_swap, ↓reduceIte, ↓EV_obs, ↓EV_obn, ↓EV_ais, ↓EV_ain, ↓EV_ob h0, mdF, mRun, List.mem_cons, List.not_mem_nil, or_false, mtab_eq, Nat.reduceEqDiff, Nat.zero_add, hd1, ke, kg, pk, pm, b02, b12, b20, mset2, b10, b00, not_true_eq_false, not_false_eq_true, true_implies, false_implies, implies_true, and_true, true_and, Nat.le_refl, true_or, or_true, eq_self, List.length_cons, List.length_nil, Nat.reduceAdd, Nat.reduceLT, Nat.reduceLeDiff]
    have x1 : (nI (evP (S.1.getD f []) (i + 1)) < nI (evP (S.1.getD f []) i) + 0) ↔ ¬ evP (S.1.getD f []) i + 0 ≤ evP (S.1.getD f []) (i + 1) := by simp (disch := omega) only [z_nI, z_lit, z_neg, z_add, z_sub, z_mul, z_lt, z_le, z_eq, z_in, z_cl]; omega
    have x2 : (nI (evP (S.1.getD f []) (i + 1)) + 2 ≤ nI (evP (S.1.getD f []) i)) ↔ evP (S.1.getD f []) (i + 1) + 2 ≤ evP (S.1.getD f []) i := by simp (disch := omega) only [z_nI, z_lit, z_neg, z_add, z_sub, z_mul, z_lt, z_le, z_eq, z_in, z_cl]; omega
    have x3 : (nI (ahL ((S.1.getD f []).take i)) + -2 ≤ 10) ↔ ((2 : Nat) = 0 → ahL ((S.1.getD f []).take i) + 2 ≤ 10) := by simp (disch := omega) only [z_nI, z_lit, z_neg, z_add, z_sub, z_mul, z_lt, z_le, z_eq, z_in, z_cl]; exact ⟨fun _ z => absurd z (by decide), fun _ => by omega⟩
    refine ⟨fun y1 => ⟨fun y2 => ?_, fun y2 => none_ ?_⟩, fun y1 => ?_⟩
    · rw [if_neg (fun z => x1.mp y1 (by omega)), if_pos (by have := x2.mp y2; omega)] at pl0
      have z2 := x2.mp y2
      obtain ⟨gg, vi⟩ := sw _ _ pl0
      refine m_ahead (by omega) hM hs hw.1 (by omega) (by omega) ?_
      simp (disch := omega) only [↓EVi, ↓EVc, ↓ft_X7_swap, ↓reduceIte, ↓EV_obs, ↓EV_obn, ↓EV_ais, ↓EV_ain, ↓EV_ob h0, mdF, mRun, List.mem_cons, List.not_mem_nil, or_false, mtab_eq, Nat.reduceEqDiff, Nat.zero_add, hd1, ke, kg, pk, pm, b02, b12, b20, mset2, b10, b00, not_true_eq_false, not_false_eq_true, true_implies, false_implies, implies_true, and_true, true_and, Nat.le_refl, true_or, or_true, eq_self, List.length_cons, List.length_nil, Nat.reduceAdd, Nat.reduceLT, Nat.reduceLeDiff]
      refine m_adds ?_
      simp (disch := omega) only [↓EVi, ↓EVc, ↓ft_X7_swap, ↓reduceIte, ↓EV_obs, ↓EV_obn, ↓EV_ais, ↓EV_ain, ↓EV_ob h0, mdF, mRun, List.mem_cons, List.not_mem_nil, or_false, mtab_eq, Nat.reduceEqDiff, Nat.zero_add, hd1, ke, kg, pk, pm, b02, b12, b20, mset2, b10, b00, not_true_eq_false, not_false_eq_true, true_implies, false_implies, implies_true, and_true, true_and, Nat.le_refl, true_or, or_true, eq_self, List.length_cons, List.length_nil, Nat.reduceAdd, Nat.reduceLT, Nat.reduceLeDiff]
      refine ⟨fun y3 => ?_, fun y3 => ?_⟩
      case refine_2 =>
        rw [pl0, aRepl_full (fun z => y3 (x3.mpr (vi.mp z)))] at hp
        exact hp h ⟨v, a, hM, hL⟩ mKeep_rfl
      have vv := vi.mpr (x3.mp y3)
      rw [pl0, aRepl_some vv] at hp
      refine n_zero (by omega) hI hM hL hf (by omega) (fun h1 v1 a1 hM1 hL1 hN1 hk1 => ?_)
      simp (disch := omega) only [↓EVi, ↓EVc, ↓ft_X7_swap, ↓reduceIte, ↓EV_obs, ↓EV_obn, ↓EV_ais, ↓EV_ain, ↓EV_ob hM1.1, mdF, mRun, List.mem_cons, List.not_mem_nil, or_false, mtab_eq, Nat.reduceEqDiff, Nat.zero_add, hd1, ke, kg, pk, pm, b02, b12, b20, mset2, b10, b00, not_true_eq_false, not_false_eq_true, true_implies, false_implies, implies_true, and_true, true_and, Nat.le_refl, true_or, or_true, eq_self, List.length_cons, List.length_nil, Nat.reduceAdd, Nat.reduceLT, Nat.reduceLeDiff]
      refine n_put (k := 2) hM1 hL1 hN1 (by simp only [List.length_append, List.length_take, List.length_cons, List.length_nil]; omega) rfl rfl (fun h2 v2 a2 hM2 hL2 hN2 hk2 => ?_)
      simp (disch := omega) only [↓EVi, ↓EVc, ↓ft_X7_swap, ↓reduceIte, ↓EV_obs, ↓EV_obn, ↓EV_ais, ↓EV_ain, ↓EV_ob hM2.1, mdF, mRun, List.mem_cons, List.not_mem_nil, or_false, mtab_eq, Nat.reduceEqDiff, Nat.zero_add, hd1, ke, kg, pk, pm, b02, b12, b20, mset2, b10, b00, not_true_eq_false, not_false_eq_true, true_implies, false_implies, implies_true, and_true, true_and, Nat.le_refl, true_or, or_true, eq_self, List.length_cons, List.length_nil, Nat.reduceAdd, Nat.reduceLT, Nat.reduceLeDiff]
      refine m_adds ?_
      simp (disch := omega) only [↓EVi, ↓EVc, ↓ft_X7_swap, ↓reduceIte, ↓EV_obs, ↓EV_obn, ↓EV_ais, ↓EV_ain, ↓EV_ob hM2.1, mdF, mRun, List.mem_cons, List.not_mem_nil, or_false, mtab_eq, Nat.reduceEqDiff, Nat.zero_add, hd1, ke, kg, pk, pm, b02, b12, b20, mset2, b10, b00, not_true_eq_false, not_false_eq_true, true_implies, false_implies, implies_true, and_true, true_and, Nat.le_refl, true_or, or_true, eq_self, List.length_cons, List.length_nil, Nat.reduceAdd, Nat.reduceLT, Nat.reduceLeDiff]
      refine n_put (k := 2) (p := evP (S.1.getD f []) i - 2) hM2 hL2 hN2 (by simp only [List.length_append, List.length_take, List.length_cons, List.length_nil]; omega) rfl (by simp (disch := omega) only [z_nI, z_lit, z_neg, z_add, z_sub, z_mul, z_lt, z_le, z_eq, z_in, z_cl]; omega) (fun h3 v3 a3 hM3 hL3 hN3 hk3 => ?_)
      simp (disch := omega) only [↓EVi, ↓EVc, ↓ft_X7_swap, ↓reduceIte, ↓EV_obs, ↓EV_obn, ↓EV_ais, ↓EV_ain, ↓EV_ob hM3.1, mdF, mRun, List.mem_cons, List.not_mem_nil, or_false, mtab_eq, Nat.reduceEqDiff, Nat.zero_add, hd1, ke, kg, pk, pm, b02, b12, b20, mset2, b10, b00, not_true_eq_false, not_false_eq_true, true_implies, false_implies, implies_true, and_true, true_and, Nat.le_refl, true_or, or_true, eq_self, List.length_cons, List.length_nil, Nat.reduceAdd, Nat.reduceLT, Nat.reduceLeDiff]
      refine n_rest (j := i + 2) (by omega) hI hM3 hL3 hN3 hf (nI_add i 2) (by omega) ?_ (fun h9 hR9 hk9 => ?_)
      · have := (vld_bd vv).1
        simp only [repl, List.length_append, List.length_take, List.length_drop, List.length_cons, List.length_nil] at this ⊢
        omega
      simp (disch := omega) only [↓EVi, ↓EVc, ↓ft_X7_swap, ↓reduceIte, ↓EV_obs, ↓EV_obn, ↓EV_ais, ↓EV_ain, mdF, mRun, List.mem_cons, List.not_mem_nil, or_false, mtab_eq, Nat.reduceEqDiff, Nat.zero_add, hd1, mset2, b10, b00, not_true_eq_false, not_false_eq_true, true_implies, false_implies, implies_true, and_true, true_and, Nat.le_refl, true_or, or_true, eq_self, List.length_cons, List.length_nil, Nat.reduceAdd, Nat.reduceLT, Nat.reduceLeDiff]
      have key := hp h9 (by simpa only [repl, List.append_assoc, List.cons_append, List.nil_append, List.append_nil] using hR9) (mKeep_trans (mKeep_trans (mKeep_trans hk1 hk2) hk3) hk9)
      simpa only [repl, List.append_assoc, List.cons_append, List.nil_append, List.append_nil] using key
    · rw [pl0, if_neg (fun z => x1.mp y1 (by omega)), if_neg (fun z => y2 (x2.mpr (by omega)))]
    · have z1 : evP (S.1.getD f []) i + 0 ≤ evP (S.1.getD f []) (i + 1) := Classical.not_not.mp (fun z => y1 (x1.mpr z))
      rw [if_pos (by omega)] at pl0
      obtain ⟨gg, vi⟩ := sw _ _ pl0
      refine m_ahead (by omega) hM hs hw.1 (by omega) (by omega) ?_
      simp (disch := omega) only [↓EVi, ↓EVc, ↓ft_X7_swap, ↓reduceIte, ↓EV_obs, ↓EV_obn, ↓EV_ais, ↓EV_ain, ↓EV_ob h0, mdF, mRun, List.mem_cons, List.not_mem_nil, or_false, mtab_eq, Nat.reduceEqDiff, Nat.zero_add, hd1, ke, kg, pk, pm, b02, b12, b20, mset2, b10, b00, not_true_eq_false, not_false_eq_true, true_implies, false_implies, implies_true, and_true, true_and, Nat.le_refl, true_or, or_true, eq_self, List.length_cons, List.length_nil, Nat.reduceAdd, Nat.reduceLT, Nat.reduceLeDiff]
      refine m_adds ?_
      simp (disch := omega) only [↓EVi, ↓EVc, ↓ft_X7_swap, ↓reduceIte, ↓EV_obs, ↓EV_obn, ↓EV_ais, ↓EV_ain, ↓EV_ob h0, mdF, mRun, List.mem_cons, List.not_mem_nil, or_false, mtab_eq, Nat.reduceEqDiff, Nat.zero_add, hd1, ke, kg, pk, pm, b02, b12, b20, mset2, b10, b00, not_true_eq_false, not_false_eq_true, true_implies, false_implies, implies_true, and_true, true_and, Nat.le_refl, true_or, or_true, eq_self, List.length_cons, List.length_nil, Nat.reduceAdd, Nat.reduceLT, Nat.reduceLeDiff]
      refine ⟨fun y3 => ?_, fun y3 => ?_⟩
      case refine_2 =>
        rw [pl0, aRepl_full (fun z => y3 (x3.mpr (vi.mp z)))] at hp
        exact hp h ⟨v, a, hM, hL⟩ mKeep_rfl
      have vv := vi.mpr (x3.mp y3)
      rw [pl0, aRepl_some vv] at hp
      refine n_zero (by omega) hI hM hL hf (by omega) (fun h1 v1 a1 hM1 hL1 hN1 hk1 => ?_)
      simp (disch := omega) only [↓EVi, ↓EVc, ↓ft_X7_swap, ↓reduceIte, ↓EV_obs, ↓EV_obn, ↓EV_ais, ↓EV_ain, ↓EV_ob hM1.1, mdF, mRun, List.mem_cons, List.not_mem_nil, or_false, mtab_eq, Nat.reduceEqDiff, Nat.zero_add, hd1, ke, kg, pk, pm, b02, b12, b20, mset2, b10, b00, not_true_eq_false, not_false_eq_true, true_implies, false_implies, implies_true, and_true, true_and, Nat.le_refl, true_or, or_true, eq_self, List.length_cons, List.length_nil, Nat.reduceAdd, Nat.reduceLT, Nat.reduceLeDiff]
      refine m_adds ?_
      simp (disch := omega) only [↓EVi, ↓EVc, ↓ft_X7_swap, ↓reduceIte, ↓EV_obs, ↓EV_obn, ↓EV_ais, ↓EV_ain, ↓EV_ob hM1.1, mdF, mRun, List.mem_cons, List.not_mem_nil, or_false, mtab_eq, Nat.reduceEqDiff, Nat.zero_add, hd1, ke, kg, pk, pm, b02, b12, b20, mset2, b10, b00, not_true_eq_false, not_false_eq_true, true_implies, false_implies, implies_true, and_true, true_and, Nat.le_refl, true_or, or_true, eq_self, List.length_cons, List.length_nil, Nat.reduceAdd, Nat.reduceLT, Nat.reduceLeDiff]
      refine n_put (k := 2) (p := evP (S.1.getD f []) (i + 1) + 2) hM1 hL1 hN1 (by simp only [List.length_append, List.length_take, List.length_cons, List.length_nil]; omega) rfl (by simp (disch := omega) only [z_nI, z_lit, z_neg, z_add, z_sub, z_mul, z_lt, z_le, z_eq, z_in, z_cl]; omega) (fun h2 v2 a2 hM2 hL2 hN2 hk2 => ?_)
      simp (disch := omega) only [↓EVi, ↓EVc, ↓ft_X7_swap, ↓reduceIte, ↓EV_obs, ↓EV_obn, ↓EV_ais, ↓EV_ain, ↓EV_ob hM2.1, mdF, mRun, List.mem_cons, List.not_mem_nil, or_false, mtab_eq, Nat.reduceEqDiff, Nat.zero_add, hd1, ke, kg, pk, pm, b02, b12, b20, mset2, b10, b00, not_true_eq_false, not_false_eq_true, true_implies, false_implies, implies_true, and_true, true_and, Nat.le_refl, true_or, or_true, eq_self, List.length_cons, List.length_nil, Nat.reduceAdd, Nat.reduceLT, Nat.reduceLeDiff]
      refine n_put (k := 2) hM2 hL2 hN2 (by simp only [List.length_append, List.length_take, List.length_cons, List.length_nil]; omega) rfl rfl (fun h3 v3 a3 hM3 hL3 hN3 hk3 => ?_)
      simp (disch := omega) only [↓EVi, ↓EVc, ↓ft_X7_swap, ↓reduceIte, ↓EV_obs, ↓EV_obn, ↓EV_ais, ↓EV_ain, ↓EV_ob hM3.1, mdF, mRun, List.mem_cons, List.not_mem_nil, or_false, mtab_eq, Nat.reduceEqDiff, Nat.zero_add, hd1, ke, kg, pk, pm, b02, b12, b20, mset2, b10, b00, not_true_eq_false, not_false_eq_true, true_implies, false_implies, implies_true, and_true, true_and, Nat.le_refl, true_or, or_true, eq_self, List.length_cons, List.length_nil, Nat.reduceAdd, Nat.reduceLT, Nat.reduceLeDiff]
      refine n_rest (j := i + 2) (by omega) hI hM3 hL3 hN3 hf (nI_add i 2) (by omega) ?_ (fun h9 hR9 hk9 => ?_)
      · have := (vld_bd vv).1
        simp only [repl, List.length_append, List.length_take, List.length_drop, List.length_cons, List.length_nil] at this ⊢
        omega
      simp (disch := omega) only [↓EVi, ↓EVc, ↓ft_X7_swap, ↓reduceIte, ↓EV_obs, ↓EV_obn, ↓EV_ais, ↓EV_ain, mdF, mRun, List.mem_cons, List.not_mem_nil, or_false, mtab_eq, Nat.reduceEqDiff, Nat.zero_add, hd1, mset2, b10, b00, not_true_eq_false, not_false_eq_true, true_implies, false_implies, implies_true, and_true, true_and, Nat.le_refl, true_or, or_true, eq_self, List.length_cons, List.length_nil, Nat.reduceAdd, Nat.reduceLT, Nat.reduceLeDiff]
      have key := hp h9 (by simpa only [repl, List.append_assoc, List.cons_append, List.nil_append, List.append_nil] using hR9) (mKeep_trans (mKeep_trans (mKeep_trans hk1 hk2) hk3) hk9)
      simpa only [repl, List.append_assoc, List.cons_append, List.nil_append, List.append_nil] using key
end MCS
