/-! the model: move, add, push -/
section MCS
theorem MW.tsw0 {G : mG} {M : mI} {Z : mZ} {pc tgt len q : Nat} {dflt hi off : Int} {offs : Array Int} {L : mL} {r : List Value} {h : mH} {al : mAl} (hd : decode (mCd M) pc = .ok (.tableswitch dflt 0 hi offs, len)) (hq : q < 2 ^ 31) (hh : (q : Int) ≤ hi) (ho : offs[q]? = some off) (ht : (pc : Int) + off = (tgt : Int)) (k : MW G M Z tgt L r h al) : MW G M Z pc L (.int (nI q) :: r) h al := by
  have e : (nI q).toInt = (q : Int) := nI_toInt hq
  refine MW.tswIn hd (by rw [e]; omega) (by rw [e]; omega) (off := off) ?_ ht k
  rw [e, Int.sub_zero, Int.toNat_natCast]
  exact ho
theorem MW.tswD {G : mG} {M : mI} {Z : mZ} {pc tgt len q : Nat} {dflt hi : Int} {offs : Array Int} {L : mL} {r : List Value} {h : mH} {al : mAl} (hd : decode (mCd M) pc = .ok (.tableswitch dflt 0 hi offs, len)) (hq : q < 2 ^ 31) (hh : hi < (q : Int)) (ht : (pc : Int) + dflt = (tgt : Int)) (k : MW G M Z tgt L r h al) : MW G M Z pc L (.int (nI q) :: r) h al := by
  have e : (nI q).toInt = (q : Int) := nI_toInt hq
  exact MW.tswOut hd (by rw [e]; omega) ht k
variable {G : mG} {d N M : Nat} {S : AS} {h : mH} {post : Option Value → mH → Prop}
set_option maxRecDepth 10000 in
theorem M_move {f k i : Int32} (hd : 5 ≤ d) (hI : SInv S) (hR : MR h G M S) (hp : ∀ h', MR h' G M (aMove f k i S).2 → mKeep h h' M (M + 17) → post (some (.int (aMove f k i S).1)) h') : MC G MX7_move d 0 0 [.ref M, .int f, .int k, .int i] h N post := by
  have hR0 := hR
  have h8 := hI.1
  have hd1 : 1 ≤ d := by omega
  obtain ⟨v, a, hM, hL⟩ := hR
  have h0 := hM.1
  refine MC.of (L0 := [some (.ref M), some (.int f), some (.int k), some (.int i)]) gd_X7_move (Nat.le_of_ble_eq_true rfl) rfl (MW.run gd_X7_move [24] 60 ?_)
  simp (disch := omega) only [↓EVi, ↓EVc, ↓ft_X7_move, ↓reduceIte, ↓EV_obs, ↓EV_obn, ↓EV_ais, ↓EV_ain, ↓EV_ob h0, mdF, mRun, List.mem_cons, List.not_mem_nil, or_false, mtab_eq, Nat.reduceEqDiff, Nat.zero_add, hd1, mset2, b10, b00, not_true_eq_false, not_false_eq_true, true_implies, false_implies, implies_true, and_true, true_and, Nat.le_refl, true_or, or_true, eq_self, List.length_cons, List.length_nil, Nat.reduceAdd, Nat.reduceLT, Nat.reduceLeDiff]
  refine c_isEvent (by omega) hI hM hL ?_
  unfold aMove at hp
  by_cases c : isF S f ∧ (0 ≤ i ∧ i < nI (fr S f).length)
  case neg =>
    rw [if_neg c]
    rw [if_neg (fun z => c ⟨z.1, z.2.1⟩)] at hp
    simp (disch := omega) only [↓EVi, ↓EVc, ↓ft_X7_move, ↓reduceIte, ↓EV_obs, ↓EV_obn, ↓EV_ais, ↓EV_ain, ↓EV_ob h0, mdF, mRun, List.mem_cons, List.not_mem_nil, or_false, mtab_eq, Nat.reduceEqDiff, Nat.zero_add, hd1, mset2, b10, b00, not_true_eq_false, not_false_eq_true, true_implies, false_implies, implies_true, and_true, true_and, Nat.le_refl, true_or, or_true, eq_self, List.length_cons, List.length_nil, Nat.reduceAdd, Nat.reduceLT, Nat.reduceLeDiff]
    exact hp h hR0 mKeep_rfl
  rw [if_pos c]
  simp (disch := omega) only [↓EVi, ↓EVc, ↓ft_X7_move, ↓reduceIte, ↓EV_obs, ↓EV_obn, ↓EV_ais, ↓EV_ain, ↓EV_ob h0, mdF, mRun, List.mem_cons, List.not_mem_nil, or_false, mtab_eq, Nat.reduceEqDiff, Nat.zero_add, hd1, mset2, b10, b00, not_true_eq_false, not_false_eq_true, true_implies, false_implies, implies_true, and_true, true_and, Nat.le_refl, true_or, or_true, eq_self, List.length_cons, List.length_nil, Nat.reduceAdd, Nat.reduceLT, Nat.reduceLeDiff]
  refine m_in32 (lo := 0) (hi := 4) ?_
  by_cases c2 : 0 ≤ k ∧ k ≤ 4
  case neg =>
    rw [if_neg c2]
    rw [if_neg (fun z => c2 z.2.2)] at hp
    simp (disch := omega) only [↓EVi, ↓EVc, ↓ft_X7_move, ↓reduceIte, ↓EV_obs, ↓EV_obn, ↓EV_ais, ↓EV_ain, ↓EV_ob h0, mdF, mRun, List.mem_cons, List.not_mem_nil, or_false, mtab_eq, Nat.reduceEqDiff, Nat.zero_add, hd1, mset2, b10, b00, not_true_eq_false, not_false_eq_true, true_implies, false_implies, implies_true, and_true, true_and, Nat.le_refl, true_or, or_true, eq_self, List.length_cons, List.length_nil, Nat.reduceAdd, Nat.reduceLT, Nat.reduceLeDiff]
    exact hp h hR0 mKeep_rfl
  rw [if_pos c2]
  rw [if_pos ⟨c.1, c.2, c2⟩] at hp
  simp (disch := omega) only [↓EVi, ↓EVc, ↓ft_X7_move, ↓reduceIte, ↓EV_obs, ↓EV_obn, ↓EV_ais, ↓EV_ain, ↓EV_ob h0, mdF, mRun, List.mem_cons, List.not_mem_nil, or_false, mtab_eq, Nat.reduceEqDiff, Nat.zero_add, hd1, mset2, b10, b00, not_true_eq_false, not_false_eq_true, true_implies, false_implies, implies_true, and_true, true_and, Nat.le_refl, true_or, or_true, eq_self, List.length_cons, List.length_nil, Nat.reduceAdd, Nat.reduceLT, Nat.reduceLeDiff]
  rcases isF_c S f hI with z | ⟨q, hq, rfl, -, hfr⟩
  · exact absurd c.1 z
  have h30 := (vld_bd (hI.2.1 q hq).1).1
  rcases arg_ix i (n := (fr S (nI q)).length) (by rw [hfr]; omega) with z | ⟨j, hj, rfl⟩
  · exact absurd c.2 z
  obtain ⟨r, hr, rfl⟩ := arg_le k 4 (by decide) c2
  rw [hfr] at hp hj
  rw [nI_clamp (n := q) (by omega), nI_clamp (n := j) (by omega), nI_clamp (n := r) (by omega)] at hp
  have D := MW.dec (e := (.tableswitch 60 0 3 #[32, 39, 46, 53], 56, 0, 0, 0, 0, 0)) (pc := 24) gd_X7_move rfl
  rcases (by omega : r = 0 ∨ r = 1 ∨ r = 2 ∨ r = 3 ∨ r = 4) with rfl | rfl | rfl | rfl | rfl
  · refine MW.tsw0 (tgt := 56) (off := 32) D (by decide) (by decide) rfl (by decide) (MW.run gd_X7_move [] 10 ?_)
    simp (disch := omega) only [↓EVi, ↓EVc, ↓ft_X7_move, ↓reduceIte, ↓EV_obs, ↓EV_obn, ↓EV_ais, ↓EV_ain, ↓EV_ob h0, mdF, mRun, List.mem_cons, List.not_mem_nil, or_false, mtab_eq, Nat.reduceEqDiff, Nat.zero_add, hd1, mset2, b10, b00, not_true_eq_false, not_false_eq_true, true_implies, false_implies, implies_true, and_true, true_and, Nat.le_refl, true_or, or_true, eq_self, List.length_cons, List.length_nil, Nat.reduceAdd, Nat.reduceLT, Nat.reduceLeDiff]
    refine m_swap (by omega) hI hM hL hq hj (fun h2 hR2 hk2 => ?_)
    simp (disch := omega) only [↓EVi, ↓EVc, ↓ft_X7_move, ↓reduceIte, ↓EV_obs, ↓EV_obn, ↓EV_ais, ↓EV_ain, ↓EV_ob h0, mdF, mRun, List.mem_cons, List.not_mem_nil, or_false, mtab_eq, Nat.reduceEqDiff, Nat.zero_add, hd1, mset2, b10, b00, not_true_eq_false, not_false_eq_true, true_implies, false_implies, implies_true, and_true, true_and, Nat.le_refl, true_or, or_true, eq_self, List.length_cons, List.length_nil, Nat.reduceAdd, Nat.reduceLT, Nat.reduceLeDiff]
    exact hp h2 hR2 hk2
  · refine MW.tsw0 (tgt := 63) (off := 39) D (by decide) (by decide) rfl (by decide) (MW.run gd_X7_move [] 10 ?_)
    simp (disch := omega) only [↓EVi, ↓EVc, ↓ft_X7_move, ↓reduceIte, ↓EV_obs, ↓EV_obn, ↓EV_ais, ↓EV_ain, ↓EV_ob h0, mdF, mRun, List.mem_cons, List.not_mem_nil, or_false, mtab_eq, Nat.reduceEqDiff, Nat.zero_add, hd1, mset2, b10, b00, not_true_eq_false, not_false_eq_true, true_implies, false_implies, implies_true, and_true, true_and, Nat.le_refl, true_or, or_true, eq_self, List.length_cons, List.length_nil, Nat.reduceAdd, Nat.reduceLT, Nat.reduceLeDiff]
    refine m_slide (by omega) hI hM hL hq hj (fun h2 hR2 hk2 => ?_)
    simp (disch := omega) only [↓EVi, ↓EVc, ↓ft_X7_move, ↓reduceIte, ↓EV_obs, ↓EV_obn, ↓EV_ais, ↓EV_ain, ↓EV_ob h0, mdF, mRun, List.mem_cons, List.not_mem_nil, or_false, mtab_eq, Nat.reduceEqDiff, Nat.zero_add, hd1, mset2, b10, b00, not_true_eq_false, not_false_eq_true, true_implies, false_implies, implies_true, and_true, true_and, Nat.le_refl, true_or, or_true, eq_self, List.length_cons, List.length_nil, Nat.reduceAdd, Nat.reduceLT, Nat.reduceLeDiff]
    exact hp h2 hR2 hk2
  · refine MW.tsw0 (tgt := 70) (off := 46) D (by decide) (by decide) rfl (by decide) (MW.run gd_X7_move [] 10 ?_)
    simp (disch := omega) only [↓EVi, ↓EVc, ↓ft_X7_move, ↓reduceIte, ↓EV_obs, ↓EV_obn, ↓EV_ais, ↓EV_ain, ↓EV_ob h0, mdF, mRun, List.mem_cons, List.not_mem_nil, or_false, mtab_eq, Nat.reduceEqDiff, Nat.zero_add, hd1, mset2, b10, b00, not_true_eq_false, not_false_eq_true, true_implies, false_implies, implies_true, and_true, true_and, Nat.le_refl, true_or, or_true, eq_self, List.length_cons, List.length_nil, Nat.reduceAdd, Nat.reduceLT, Nat.reduceLeDiff]
    refine m_uncurl (by omega) hI hM hL hq hj (fun h2 hR2 hk2 => ?_)
    simp (disch := omega) only [↓EVi, ↓EVc, ↓ft_X7_move, ↓reduceIte, ↓EV_obs, ↓EV_obn, ↓EV_ais, ↓EV_ain, ↓EV_ob h0, mdF, mRun, List.mem_cons, List.not_mem_nil, or_false, mtab_eq, Nat.reduceEqDiff, Nat.zero_add, hd1, mset2, b10, b00, not_true_eq_false, not_false_eq_true, true_implies, false_implies, implies_true, and_true, true_and, Nat.le_refl, true_or, or_true, eq_self, List.length_cons, List.length_nil, Nat.reduceAdd, Nat.reduceLT, Nat.reduceLeDiff]
    exact hp h2 hR2 hk2
  · refine MW.tsw0 (tgt := 77) (off := 53) D (by decide) (by decide) rfl (by decide) (MW.run gd_X7_move [] 10 ?_)
    simp (disch := omega) only [↓EVi, ↓EVc, ↓ft_X7_move, ↓reduceIte, ↓EV_obs, ↓EV_obn, ↓EV_ais, ↓EV_ain, ↓EV_ob h0, mdF, mRun, List.mem_cons, List.not_mem_nil, or_false, mtab_eq, Nat.reduceEqDiff, Nat.zero_add, hd1, mset2, b10, b00, not_true_eq_false, not_false_eq_true, true_implies, false_implies, implies_true, and_true, true_and, Nat.le_refl, true_or, or_true, eq_self, List.length_cons, List.length_nil, Nat.reduceAdd, Nat.reduceLT, Nat.reduceLeDiff]
    refine m_pull (by omega) hI hM hL hq hj (fun h2 hR2 hk2 => ?_)
    simp (disch := omega) only [↓EVi, ↓EVc, ↓ft_X7_move, ↓reduceIte, ↓EV_obs, ↓EV_obn, ↓EV_ais, ↓EV_ain, ↓EV_ob h0, mdF, mRun, List.mem_cons, List.not_mem_nil, or_false, mtab_eq, Nat.reduceEqDiff, Nat.zero_add, hd1, mset2, b10, b00, not_true_eq_false, not_false_eq_true, true_implies, false_implies, implies_true, and_true, true_and, Nat.le_refl, true_or, or_true, eq_self, List.length_cons, List.length_nil, Nat.reduceAdd, Nat.reduceLT, Nat.reduceLeDiff]
    exact hp h2 hR2 hk2
  · refine MW.tswD (tgt := 84) D (by decide) (by decide) (by decide) (MW.run gd_X7_move [] 10 ?_)
    simp (disch := omega) only [↓EVi, ↓EVc, ↓ft_X7_move, ↓reduceIte, ↓EV_obs, ↓EV_obn, ↓EV_ais, ↓EV_ain, ↓EV_ob h0, mdF, mRun, List.mem_cons, List.not_mem_nil, or_false, mtab_eq, Nat.reduceEqDiff, Nat.zero_add, hd1, mset2, b10, b00, not_true_eq_false, not_false_eq_true, true_implies, false_implies, implies_true, and_true, true_and, Nat.le_refl, true_or, or_true, eq_self, List.length_cons, List.length_nil, Nat.reduceAdd, Nat.reduceLT, Nat.reduceLeDiff]
    refine m_straighten (by omega) hI hM hL hq hj (fun h2 hR2 hk2 => ?_)
    simp (disch := omega) only [↓EVi, ↓EVc, ↓ft_X7_move, ↓reduceIte, ↓EV_obs, ↓EV_obn, ↓EV_ais, ↓EV_ain, ↓EV_ob h0, mdF, mRun, List.mem_cons, List.not_mem_nil, or_false, mtab_eq, Nat.reduceEqDiff, Nat.zero_add, hd1, mset2, b10, b00, not_true_eq_false, not_false_eq_true, true_implies, false_implies, implies_true, and_true, true_and, Nat.le_refl, true_or, or_true, eq_self, List.length_cons, List.length_nil, Nat.reduceAdd, Nat.reduceLT, Nat.reduceLeDiff]
    exact hp h2 hR2 hk2
end MCS
