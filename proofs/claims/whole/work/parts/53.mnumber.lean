/-! the model: number -/
section GOS
variable {G : mG} {d N M : Nat} {S : AS} {h : mH} {post : Option Value → mH → Prop}
set_option maxRecDepth 10000 in
theorem M_number {f p w : Int32} (hd : 4 ≤ d) (hI : SInv S) (hR : MR h G M S) (hp : ∀ h', MR h' G M (aNumber f p w S).2 → mKeep h h' M (M + 17) → post (some (.int (aNumber f p w S).1)) h') : MC G MX7_number d 0 0 [.ref M, .int f, .int p, .int w] h N post := by
  have hR0 := hR
  have h8 := hI.1
  have hd1 : 1 ≤ d := by omega
  obtain ⟨v, a, hM, hL⟩ := hR
  have h0 := hM.1
  unfold aNumber at hp
  refine MC.of (L0 := [some (.ref M), some (.int f), some (.int p), some (.int w), none, none]) gd_X7_number (Nat.le_of_ble_eq_true rfl) rfl (MW.run gd_X7_number [55] 30 ?_)
  simp (disch := omega) only [↓EVi, ↓EVc, ↓ft_X7_number, ↓reduceIte, ↓EV_obs, ↓EV_obn, ↓EV_ais, ↓EV_ain, ↓EV_ob h0, mdF, mRun, List.mem_cons, List.not_mem_nil, or_false, mtab_eq, Nat.reduceEqDiff, Nat.zero_add, hd1, mset2, b10, b00, not_true_eq_false, not_false_eq_true, true_implies, false_implies, implies_true, and_true, true_and, Nat.le_refl, true_or, or_true, eq_self, List.length_cons, List.length_nil, Nat.reduceAdd, Nat.reduceLT, Nat.reduceLeDiff]
  refine c_is (by omega) hI hM hL ?_
  rcases isF_c S f hI with c | ⟨r, hr, rfl, c, hfr⟩
  · rw [if_neg (fun z => c z.1)] at hp
    rw [if_neg c]
    simp (disch := omega) only [↓EVi, ↓EVc, ↓ft_X7_number, ↓reduceIte, ↓EV_obs, ↓EV_obn, ↓EV_ais, ↓EV_ain, ↓EV_ob h0, mdF, mRun, List.mem_cons, List.not_mem_nil, or_false, mtab_eq, Nat.reduceEqDiff, Nat.zero_add, hd1, mset2, b10, b00, not_true_eq_false, not_false_eq_true, true_implies, false_implies, implies_true, and_true, true_and, Nat.le_refl, true_or, or_true, eq_self, List.length_cons, List.length_nil, Nat.reduceAdd, Nat.reduceLT, Nat.reduceLeDiff]
    exact hp h hR0 mKeep_rfl
  rw [if_pos c]
  simp (disch := omega) only [↓EVi, ↓EVc, ↓ft_X7_number, ↓reduceIte, ↓EV_obs, ↓EV_obn, ↓EV_ais, ↓EV_ain, ↓EV_ob h0, mdF, mRun, List.mem_cons, List.not_mem_nil, or_false, mtab_eq, Nat.reduceEqDiff, Nat.zero_add, hd1, mset2, b10, b00, not_true_eq_false, not_false_eq_true, true_implies, false_implies, implies_true, and_true, true_and, Nat.le_refl, true_or, or_true, eq_self, List.length_cons, List.length_nil, Nat.reduceAdd, Nat.reduceLT, Nat.reduceLeDiff]
  refine m_in32 (lo := 0) (hi := 4) ?_
  by_cases c1 : 0 ≤ w ∧ w ≤ 4
  case neg =>
    rw [if_neg c1]
    rw [if_neg (fun z => c1 z.2.1)] at hp
    simp (disch := omega) only [↓EVi, ↓EVc, ↓ft_X7_number, ↓reduceIte, ↓EV_obs, ↓EV_obn, ↓EV_ais, ↓EV_ain, ↓EV_ob h0, mdF, mRun, List.mem_cons, List.not_mem_nil, or_false, mtab_eq, Nat.reduceEqDiff, Nat.zero_add, hd1, mset2, b10, b00, not_true_eq_false, not_false_eq_true, true_implies, false_implies, implies_true, and_true, true_and, Nat.le_refl, true_or, or_true, eq_self, List.length_cons, List.length_nil, Nat.reduceAdd, Nat.reduceLT, Nat.reduceLeDiff]
    exact hp h hR0 mKeep_rfl
  rw [if_pos c1]
  rw [hfr] at hp
  have hs0 := hL.2.1 r hr
  have hw := hI.2.1 r hr
  have b := vld_bd hw.1
  have hnP := nP_le hw
  simp (disch := omega) only [↓EVi, ↓EVc, ↓ft_X7_number, ↓reduceIte, ↓EV_obs, ↓EV_obn, ↓EV_ais, ↓EV_ain, ↓EV_ob h0, mdF, mRun, List.mem_cons, List.not_mem_nil, or_false, mtab_eq, Nat.reduceEqDiff, Nat.zero_add, hd1, mset2, b10, b00, not_true_eq_false, not_false_eq_true, true_implies, false_implies, implies_true, and_true, true_and, Nat.le_refl, true_or, or_true, eq_self, List.length_cons, List.length_nil, Nat.reduceAdd, Nat.reduceLT, Nat.reduceLeDiff]
  refine m_goAlong (by omega) hw hs0 (by omega) hM (fun h1 v1 a1 htr hM1 hk1 hv1 ha1 => ?_)
  have fin := hp h1 ⟨v1, a1, hM1, MRel_tr hL hv1 ha1⟩ hk1
  have hs : slotR a1 r (S.1.getD r []) := slotR_congr (ha1 1 (by decide)) (ha1 2 (by decide)) (ha1 3 (by decide)) hs0
  clear hp
  generalize S.1.getD r [] = es at *
  have h01 := hM1.1
  have a1' : h1 (M + 1) = some (.inl (gC G 0, 8, .inl (a1 1))) := hM1.2 1 (by decide) (by decide)
  have a2' : h1 (M + 2) = some (.inl (gC G 0, 240, .inl (a1 2))) := hM1.2 2 (by decide) (by decide)
  have a3' : h1 (M + 3) = some (.inl (gC G 0, 240, .inl (a1 3))) := hM1.2 3 (by decide) (by decide)
  have a10' : h1 (M + 10) = some (.inl (gC G 0, 310, .inl (a1 10))) := hM1.2 10 (by decide) (by decide)
  have a13' : h1 (M + 13) = some (.inl (gC G 0, 15, .inl (a1 13))) := hM1.2 13 (by decide) (by decide)
  have a14' : h1 (M + 14) = some (.inl (gC G 0, 15, .inl (a1 14))) := hM1.2 14 (by decide) (by decide)
  have a15' : h1 (M + 15) = some (.inl (gC G 0, 15, .inl (a1 15))) := hM1.2 15 (by decide) (by decide)
  have hcf : (nI r).toNatClampNeg = r := nI_clamp (by omega)
  have vf : vp_in (nI r) 8 := vp_in_nI (by omega) (by decide)
  have hs1 := hs.1
  have e24 : v1 24 = nI (nP es) := htr.2.1
  simp (disch := omega) only [↓EVi, ↓EVc, ↓ft_X7_number, ↓reduceIte, ↓EV_obs, ↓EV_obn, ↓EV_ais, ↓EV_ain, ↓EV_ob h01, mdF, mRun, List.mem_cons, List.not_mem_nil, or_false, mtab_eq, Nat.reduceEqDiff, Nat.zero_add, hd1, mset2, b10, b00, not_true_eq_false, not_false_eq_true, true_implies, false_implies, implies_true, and_true, true_and, Nat.le_refl, true_or, or_true, eq_self, List.length_cons, List.length_nil, Nat.reduceAdd, Nat.reduceLT, Nat.reduceLeDiff]
  rw [e24]
  refine m_in32 (lo := 0) ?_
  simp (disch := omega) only [le_pred]
  by_cases c2 : 0 ≤ p ∧ p < nI (nP es)
  case neg =>
    rw [if_neg c2]
    rw [if_neg (fun z => c2 z.2.2)] at fin
    simp (disch := omega) only [↓EVi, ↓EVc, ↓ft_X7_number, ↓reduceIte, ↓EV_obs, ↓EV_obn, ↓EV_ais, ↓EV_ain, ↓EV_ob h01, mdF, mRun, List.mem_cons, List.not_mem_nil, or_false, mtab_eq, Nat.reduceEqDiff, Nat.zero_add, hd1, mset2, b10, b00, not_true_eq_false, not_false_eq_true, true_implies, false_implies, implies_true, and_true, true_and, Nat.le_refl, true_or, or_true, eq_self, List.length_cons, List.length_nil, Nat.reduceAdd, Nat.reduceLT, Nat.reduceLeDiff]
    exact fin
  rw [if_pos c2]
  rw [if_pos ⟨c, c1, c2⟩] at fin
  rcases arg_ix p (n := nP es) (by omega) with z | ⟨t, ht, rfl⟩
  · exact absurd c2 z
  rw [nI_clamp (n := t) (by omega)] at fin
  simp (disch := omega) only [↓EVi, ↓EVc, ↓ft_X7_number, ↓reduceIte, ↓EV_obs, ↓EV_obn, ↓EV_ais, ↓EV_ain, ↓EV_ob h01, mdF, mRun, List.mem_cons, List.not_mem_nil, or_false, mtab_eq, Nat.reduceEqDiff, Nat.zero_add, hd1, mset2, b10, b00, not_true_eq_false, not_false_eq_true, true_implies, false_implies, implies_true, and_true, true_and, Nat.le_refl, true_or, or_true, eq_self, List.length_cons, List.length_nil, Nat.reduceAdd, Nat.reduceLT, Nat.reduceLeDiff]
  refine MW.upto es.length (fun i L h' => L = [some (.ref M), some (.int (nI r)), some (.int (nI t)), some (.int w), some (.int (nI (dtM es t i))), some (.int (nI i))] ∧ h' = h1) ?_ ?_ 0 _ _ (Nat.zero_le _) ⟨rfl, rfl⟩
  · rintro i L h' hi ⟨rfl, rfl⟩ ih
    have f1 : (nI es.length ≤ nI i) = False := eq_false (by simp (disch := omega) only [z_nI, z_lit, z_neg, z_add, z_sub, z_mul, z_lt, z_le, z_eq, z_in, z_cl]; omega)
    have hce : (30 * nI r + nI i).toNatClampNeg = 30 * r + i := by simp (disch := omega) only [z_nI, z_lit, z_neg, z_add, z_sub, z_mul, z_lt, z_le, z_eq, z_in, z_cl]; omega
    have ve : vp_in (30 * nI r + nI i) 240 := by simp (disch := omega) only [z_nI, z_lit, z_neg, z_add, z_sub, z_mul, z_lt, z_le, z_eq, z_in, z_cl]; omega
    obtain ⟨hK, hP⟩ := hs.2 i hi
    have sm := vld_sm hw.1 hi
    have ed : dtM es t (i + 1) = dtM es t i + (if evK es i = 2 ∧ (loA es i).1 = t then 1 else 0) := rfl
    have nx : ∀ D : Nat, D = dtM es t (i + 1) → MW G MX7_number (mz G d 0 0 post) 55 [some (.ref M), some (.int (nI r)), some (.int (nI t)), some (.int w), some (.int (nI D)), some (.int (nI (i + 1)))] [] h' (N, 0, 0) := by
      rintro D rfl
      exact ih _ _ ⟨rfl, rfl⟩
    have ez : nI (dtM es t i) + 0 = nI (dtM es t i) := nI_add _ 0
    by_cases k2 : evK es i = 2
    case neg =>
      have f2 : (nI (evK es i) = 2) = False := eq_false (fun z => k2 ((nI_eq (b := 2) (by omega) (by omega)).mp z))
      refine MW.run1 gd_X7_number [55] 24 ?_
      simp (disch := omega) only [↓EVk, ↓w_if_eq, ↓w_an_ite, ↓mEndK, ↓w_retK0, ↓w_fitK, ↓w_dupK, ↓w_dup2K, w_an_back, ↓EVd, ↓ft_X7_number, ↓reduceIte, ↓EV_obs, ↓EV_obn, ↓EV_ais, ↓EV_ain, ↓EV_ob h01, ↓EV_ai a1', ↓EV_ai a2', mdF, mRun, List.mem_cons, List.not_mem_nil, or_false, mtab_eq, Nat.reduceEqDiff, Nat.zero_add, hcf, vf, hs1, f1, hce, ve, hK, f2, mset2, b10, b00, not_true_eq_false, not_false_eq_true, true_implies, false_implies, implies_true, and_true, true_and, Nat.le_refl, true_or, or_true, eq_self, List.length_cons, List.length_nil, Nat.reduceAdd, Nat.reduceLT, Nat.reduceLeDiff]
      rw [nI_1, ez]
      exact nx _ (by rw [ed, if_neg (fun z => k2 z.1), Nat.add_zero])
    have f2 : (nI (evK es i) = 2) = True := eq_true (by rw [k2]; rfl)
    have ho := (ev_ok hw.1 hi).2.2.2.2 k2
    have h10 := (ev_ok hw.1 hi).2.1
    obtain ⟨t1, -, -, t1'⟩ := tr_at hw htr (x := i) (y := evP es i) (by omega) (by omega)
    have g1 : (10 * nI i + nI (evP es i)).toNatClampNeg = 10 * i + evP es i := by simp (disch := omega) only [z_nI, z_lit, z_neg, z_add, z_sub, z_mul, z_lt, z_le, z_eq, z_in, z_cl]; omega
    have g2 : vp_in (10 * nI i + nI (evP es i)) 310 := by simp (disch := omega) only [z_nI, z_lit, z_neg, z_add, z_sub, z_mul, z_lt, z_le, z_eq, z_in, z_cl]; omega
    have q1 : (nI (tM es (arcF es i (evP es i))).1 = nI t) ↔ (loA es i).1 = t := nI_eq (by omega) (by omega)
    clear ho ih
    by_cases k3 : (loA es i).1 = t
    · have f3 : (nI (tM es (arcF es i (evP es i))).1 = nI t) = True := eq_true (q1.mpr k3)
      refine MW.run1 gd_X7_number [55] 42 ?_
      simp (disch := omega) only [↓EVk, ↓w_if_eq, ↓w_an_ite, ↓mEndK, ↓w_retK0, ↓w_fitK, ↓w_dupK, ↓w_dup2K, w_an_back, ↓EVd, ↓ft_X7_number, ↓reduceIte, ↓EV_obs, ↓EV_obn, ↓EV_ais, ↓EV_ain, ↓EV_ob h01, ↓EV_ai a1', ↓EV_ai a2', ↓EV_ai a3', ↓EV_ai a10', mdF, mRun, List.mem_cons, List.not_mem_nil, or_false, mtab_eq, Nat.reduceEqDiff, Nat.zero_add, hcf, vf, hs1, f1, hce, ve, hK, hP, f2, g1, g2, t1, f3, mset2, b10, b00, not_true_eq_false, not_false_eq_true, true_implies, false_implies, implies_true, and_true, true_and, Nat.le_refl, true_or, or_true, eq_self, List.length_cons, List.length_nil, Nat.reduceAdd, Nat.reduceLT, Nat.reduceLeDiff]
      rw [nI_1, nI_1]
      exact nx _ (by rw [ed, if_pos ⟨k2, k3⟩])
    · have f3 : (nI (tM es (arcF es i (evP es i))).1 = nI t) = False := eq_false (fun z => k3 (q1.mp z))
      refine MW.run1 gd_X7_number [55] 42 ?_
      simp (disch := omega) only [↓EVk, ↓w_if_eq, ↓w_an_ite, ↓mEndK, ↓w_retK0, ↓w_fitK, ↓w_dupK, ↓w_dup2K, w_an_back, ↓EVd, ↓ft_X7_number, ↓reduceIte, ↓EV_obs, ↓EV_obn, ↓EV_ais, ↓EV_ain, ↓EV_ob h01, ↓EV_ai a1', ↓EV_ai a2', ↓EV_ai a3', ↓EV_ai a10', mdF, mRun, List.mem_cons, List.not_mem_nil, or_false, mtab_eq, Nat.reduceEqDiff, Nat.zero_add, hcf, vf, hs1, f1, hce, ve, hK, hP, f2, g1, g2, t1, f3, mset2, b10, b00, not_true_eq_false, not_false_eq_true, true_implies, false_implies, implies_true, and_true, true_and, Nat.le_refl, true_or, or_true, eq_self, List.length_cons, List.length_nil, Nat.reduceAdd, Nat.reduceLT, Nat.reduceLeDiff]
      rw [nI_1, ez]
      exact nx _ (by rw [ed, if_neg (fun z => k3 z.2), Nat.add_zero])
  · rintro L h' ⟨rfl, rfl⟩
    have f1 : (nI es.length ≤ nI es.length) = True := eq_true (nI_le (Nat.le_refl _) (by omega))
    refine MW.run1 gd_X7_number [55, 125] 10 ?_
    simp (disch := omega) only [↓EVk, ↓w_if_eq, ↓w_an_ite, ↓mEndK, ↓w_retK0, ↓w_fitK, ↓w_dupK, ↓w_dup2K, w_an_back, ↓EVd, ↓ft_X7_number, ↓reduceIte, ↓EV_obs, ↓EV_obn, ↓EV_ais, ↓EV_ain, ↓EV_ob h01, ↓EV_ai a1', mdF, mRun, List.mem_cons, List.not_mem_nil, or_false, mtab_eq, Nat.reduceEqDiff, Nat.zero_add, hcf, vf, hs1, f1, mset2, b10, b00, not_true_eq_false, not_false_eq_true, true_implies, false_implies, implies_true, and_true, true_and, Nat.le_refl, true_or, or_true, eq_self, List.length_cons, List.length_nil, Nat.reduceAdd, Nat.reduceLT, Nat.reduceLeDiff]
    refine MW.run1 gd_X7_number [55] 36 ?_
    simp (disch := omega) only [↓EVi, ↓EVc, ↓ft_X7_number, ↓reduceIte, ↓EV_obs, ↓EV_obn, ↓EV_ais, ↓EV_ain, ↓EV_ob h01, mdF, mRun, List.mem_cons, List.not_mem_nil, or_false, mtab_eq, Nat.reduceEqDiff, Nat.zero_add, hd1, mset2, b10, b00, not_true_eq_false, not_false_eq_true, true_implies, false_implies, implies_true, and_true, true_and, Nat.le_refl, true_or, or_true, eq_self, List.length_cons, List.length_nil, Nat.reduceAdd, Nat.reduceLT, Nat.reduceLeDiff]
    refine m_signed (by omega) hw hs (by omega) htr hM1 (by omega) (by omega) ?_
    have hct : (nI t).toNatClampNeg = t := nI_clamp (by omega)
    have vt : vp_in (nI t) 15 := vp_in_nI (by omega) (by decide)
    obtain ⟨r13, r14, r15⟩ := htr.2.2.1 t ht
    have n20 : ¬ ((2 : Int32) = 0) := by decide
    simp (disch := omega) only [↓EVi, ↓EVc, ↓ft_X7_number, ↓reduceIte, ↓EV_obs, ↓EV_obn, ↓EV_ais, ↓EV_ain, ↓EV_ob h01, ↓EV_ai a13', ↓EV_ai a14', ↓EV_ai a15', mdF, mRun, List.mem_cons, List.not_mem_nil, or_false, mtab_eq, Nat.reduceEqDiff, Nat.zero_add, hd1, hct, vt, n20, mset2, b10, b00, not_true_eq_false, not_false_eq_true, true_implies, false_implies, implies_true, and_true, true_and, Nat.le_refl, true_or, or_true, eq_self, List.length_cons, List.length_nil, Nat.reduceAdd, Nat.reduceLT, Nat.reduceLeDiff]
    rw [r13, r14, r15]
    refine ⟨fun z0 => ⟨fun z1 => ⟨fun z2 => ⟨fun z3 => ?_, fun z3 => ?_⟩, fun z2 => ?_⟩, fun z1 => ?_⟩, fun z0 => ?_⟩
    · rw [if_neg z0, if_neg z1, if_neg z2, if_neg z3] at fin
      exact fin
    · rw [if_neg z0, if_neg z1, if_neg z2, if_pos (Classical.not_not.mp z3)] at fin
      exact fin
    · rw [if_neg z0, if_neg z1, if_pos (Classical.not_not.mp z2)] at fin
      exact fin
    · rw [if_neg z0, if_pos (Classical.not_not.mp z1)] at fin
      exact fin
    · rw [if_pos (Classical.not_not.mp z0)] at fin
      exact fin
end GOS
