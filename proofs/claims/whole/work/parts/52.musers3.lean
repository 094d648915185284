/-! the model: about, number, degree -/
noncomputable def degM (es : List Ev) : Int32 := if nI (tD es 0) ≤ nI (tU es 0) then nI (tU es 0) - nI (tD es 0) else nI (tD es 0) - nI (tU es 0)
noncomputable def degW (es : List Ev) (i : Nat) : Int32 := zI (upA es i).2.2 - zI (loA es i).2.2
noncomputable def degV (es : List Ev) (i : Nat) : Int32 := if degM es = 0 then degW es i else if degW es i - degW es i / degM es * degM es < 0 then degW es i - degW es i / degM es * degM es + degM es else degW es i - degW es i / degM es * degM es
noncomputable def aDegree (f i : Int32) (S : AS) : Int32 × AS := (if isX S f i then (if 1 < nP (fr S f) then -1002 else degV (fr S f) i.toNatClampNeg) else -1000, S)
theorem nP_pos {es : List Ev} (hw : whl es) : 0 < nP es := by
  have hl := List.length_pos_iff.mpr hw.2.1
  have hz : evK es 0 = 0 := by
    obtain ⟨k2, -, e0, e1, e2⟩ := ev_ok hw.1 hl
    rw [aN_zero] at e1 e2
    rcases (by omega : evK es 0 = 0 ∨ evK es 0 = 1 ∨ evK es 0 = 2) with c | c | c
    · exact c
    · have := e1 c
      omega
    · have := e2 c
      omega
  have hb := bth_succ (es := es) hl
  rw [if_pos hz, bth_zero] at hb
  have hb2 := bth_mono (es := es) 1 es.length hl (Nat.le_refl _)
  have key : ∀ j, 1 ≤ j → 0 < (trc es j).2.1 := by
    intro j
    induction j with
    | zero => intro h; omega
    | succ j ih =>
      intro _
      rw [trc_at]
      by_cases c : ((trc es j).1 (2 * j + 1)).isSome = true
      · rw [if_pos c]
        by_cases c0 : j = 0
        · subst c0
          exact absurd c (by show ¬ (none : Option Mk).isSome = true; decide)
        · exact ih (by omega)
      · rw [if_neg c]
        exact Nat.succ_pos _
  exact key _ (by have : bth es (0 + 1) = bth es 1 := rfl; omega)
section GOS
variable {G : mG} {d N M : Nat} {S : AS} {h : mH} {post : Option Value → mH → Prop}
set_option maxRecDepth 10000 in
theorem m_degreeOf {f i : Nat} {es : List Ev} {v : Nat → Int32} {a : Nat → Nat → Int32} (hw : whl es) (hs : slotR a f es) (hf : f < 8) (ht : trR es (trT es) v a) (hM : ModelC h G M v a) (hi : i < es.length) (hK : evK es i = 1) (hp : post (some (.int (degV es i))) h) : MC G MX7_degreeOf d 0 0 [.ref M, .int (nI f), .int (nI i)] h N post := by
  have h0 := hM.1
  have a3 : h (M + 3) = some (.inl (gC G 0, 240, .inl (a 3))) := hM.2 3 (by decide) (by decide)
  have a12 : h (M + 12) = some (.inl (gC G 0, 310, .inl (a 12))) := hM.2 12 (by decide) (by decide)
  have a14 : h (M + 14) = some (.inl (gC G 0, 15, .inl (a 14))) := hM.2 14 (by decide) (by decide)
  have a15 : h (M + 15) = some (.inl (gC G 0, 15, .inl (a 15))) := hM.2 15 (by decide) (by decide)
  have b30 := (vld_bd hw.1).1
  have ho := (ev_ok hw.1 hi).2.2.2.1 hK
  have h10 := (ev_ok hw.1 hi).2.1
  have hP := (hs.2 i hi).2
  have t1 := (tr_at hw ht (x := i) (y := evP es i) (by omega) (by omega)).2.2.1
  have t2 := (tr_at hw ht (x := i) (y := evP es i + 1) (by omega) (by omega)).2.2.1
  obtain ⟨-, u0, d0⟩ := ht.2.2.1 0 (nP_pos hw)
  have hce : (30 * nI f + nI i).toNatClampNeg = 30 * f + i := by simp (disch := omega) only [z_nI, z_lit, z_neg, z_add, z_sub, z_mul, z_lt, z_le, z_eq, z_in, z_cl]; omega
  have ve : vp_in (30 * nI f + nI i) 240 := by simp (disch := omega) only [z_nI, z_lit, z_neg, z_add, z_sub, z_mul, z_lt, z_le, z_eq, z_in, z_cl]; omega
  have c1 : (10 * nI i + nI (evP es i)).toNatClampNeg = 10 * i + evP es i := by simp (disch := omega) only [z_nI, z_lit, z_neg, z_add, z_sub, z_mul, z_lt, z_le, z_eq, z_in, z_cl]; omega
  have v1 : vp_in (10 * nI i + nI (evP es i)) 310 := by simp (disch := omega) only [z_nI, z_lit, z_neg, z_add, z_sub, z_mul, z_lt, z_le, z_eq, z_in, z_cl]; omega
  have c2 : (10 * nI i + nI (evP es i) + 1).toNatClampNeg = 10 * i + (evP es i + 1) := by simp (disch := omega) only [z_nI, z_lit, z_neg, z_add, z_sub, z_mul, z_lt, z_le, z_eq, z_in, z_cl]; omega
  have v2 : vp_in (10 * nI i + nI (evP es i) + 1) 310 := by simp (disch := omega) only [z_nI, z_lit, z_neg, z_add, z_sub, z_mul, z_lt, z_le, z_eq, z_in, z_cl]; omega
  have z0 : Int32.toNatClampNeg 0 = 0 := rfl
  have vz : vp_in 0 15 := by unfold vp_in; decide
  refine MC.of (L0 := [some (.ref M), some (.int (nI f)), some (.int (nI i)), none, none, none, none]) gd_X7_degreeOf (Nat.le_of_ble_eq_true rfl) rfl (MW.run gd_X7_degreeOf [39] 40 ?_)
  clear ho
  simp (disch := omega) only [↓EVi, ↓EVc, ↓ft_X7_degreeOf, ↓reduceIte, ↓EV_obs, ↓EV_obn, ↓EV_ais, ↓EV_ain, ↓EV_ob h0, ↓EV_ai a3, ↓EV_ai a12, mdF, mRun, List.mem_cons, List.not_mem_nil, or_false, mtab_eq, Nat.reduceEqDiff, Nat.zero_add, hce, ve, c1, v1, c2, v2, hP, t1, t2, mset2, b10, b00, not_true_eq_false, not_false_eq_true, true_implies, false_implies, implies_true, and_true, true_and, Nat.le_refl, true_or, or_true, eq_self, List.length_cons, List.length_nil, Nat.reduceAdd, Nat.reduceLT, Nat.reduceLeDiff]
  have fin : ∀ y, y = degM es → MW G MX7_degreeOf (mz G d 0 0 post) 85 [some (.ref M), some (.int (nI f)), some (.int (nI i)), some (.int (nI (evP es i))), some (.int (degW es i)), some (.int y), none] [] h (N, 0, 0) := by
    intro y hy
    subst hy
    unfold degV at hp
    refine MW.run gd_X7_degreeOf [] 30 ?_
    simp (disch := omega) only [↓EVi, ↓EVc, ↓ft_X7_degreeOf, ↓reduceIte, ↓EV_obs, ↓EV_obn, ↓EV_ais, ↓EV_ain, ↓EV_ob h0, mdF, mRun, List.mem_cons, List.not_mem_nil, or_false, mtab_eq, Nat.reduceEqDiff, Nat.zero_add, mset2, b10, b00, not_true_eq_false, not_false_eq_true, true_implies, false_implies, implies_true, and_true, true_and, Nat.le_refl, true_or, or_true, eq_self, List.length_cons, List.length_nil, Nat.reduceAdd, Nat.reduceLT, Nat.reduceLeDiff]
    refine ⟨fun z => ⟨z, fun y => ?_, fun y => ?_⟩, fun z => ?_⟩
    · rw [if_neg z, if_neg (by rw [Int32.not_lt]; exact y)] at hp
      exact hp
    · rw [if_neg z, if_pos (by rw [← Int32.not_le]; exact y)] at hp
      exact hp
    · rw [if_pos (Classical.not_not.mp z)] at hp
      exact hp
  refine MW.run1 gd_X7_degreeOf [85] 40 ?_
  simp (disch := omega) only [↓EVi, ↓EVc, ↓ft_X7_degreeOf, ↓reduceIte, ↓EV_obs, ↓EV_obn, ↓EV_ais, ↓EV_ain, ↓EV_ob h0, ↓EV_ai a14, ↓EV_ai a15, mdF, mRun, List.mem_cons, List.not_mem_nil, or_false, mtab_eq, Nat.reduceEqDiff, Nat.zero_add, z0, vz, mset2, b10, b00, not_true_eq_false, not_false_eq_true, true_implies, false_implies, implies_true, and_true, true_and, Nat.le_refl, true_or, or_true, eq_self, List.length_cons, List.length_nil, Nat.reduceAdd, Nat.reduceLT, Nat.reduceLeDiff]
  rw [u0, d0]
  refine ⟨fun z => fin _ ?_, fun z => fin _ ?_⟩
  · unfold degM
    exact (if_pos z).symm
  · unfold degM
    exact (if_neg z).symm
set_option maxRecDepth 10000 in
theorem M_degree {f i : Int32} (hd : 4 ≤ d) (hI : SInv S) (hR : MR h G M S) (hp : ∀ h', MR h' G M (aDegree f i S).2 → mKeep h h' M (M + 17) → post (some (.int (aDegree f i S).1)) h') : MC G MX7_degree d 0 0 [.ref M, .int f, .int i] h N post := by
  have hR0 := hR
  have h8 := hI.1
  have hd1 : 1 ≤ d := by omega
  obtain ⟨v, a, hM, hL⟩ := hR
  have h0 := hM.1
  unfold aDegree at hp
  refine MC.of (L0 := [some (.ref M), some (.int f), some (.int i)]) gd_X7_degree (Nat.le_of_ble_eq_true rfl) rfl (MW.run gd_X7_degree [] 30 ?_)
  simp (disch := omega) only [↓EVi, ↓EVc, ↓ft_X7_degree, ↓reduceIte, ↓EV_obs, ↓EV_obn, ↓EV_ais, ↓EV_ain, ↓EV_ob h0, mdF, mRun, List.mem_cons, List.not_mem_nil, or_false, mtab_eq, Nat.reduceEqDiff, Nat.zero_add, hd1, mset2, b10, b00, not_true_eq_false, not_false_eq_true, true_implies, false_implies, implies_true, and_true, true_and, Nat.le_refl, true_or, or_true, eq_self, List.length_cons, List.length_nil, Nat.reduceAdd, Nat.reduceLT, Nat.reduceLeDiff]
  refine c_isCross (by omega) hI hM hL ?_
  by_cases c : isX S f i
  case neg =>
    rw [if_neg c]
    rw [if_neg c] at hp
    simp (disch := omega) only [↓EVi, ↓EVc, ↓ft_X7_degree, ↓reduceIte, ↓EV_obs, ↓EV_obn, ↓EV_ais, ↓EV_ain, ↓EV_ob h0, mdF, mRun, List.mem_cons, List.not_mem_nil, or_false, mtab_eq, Nat.reduceEqDiff, Nat.zero_add, hd1, mset2, b10, b00, not_true_eq_false, not_false_eq_true, true_implies, false_implies, implies_true, and_true, true_and, Nat.le_refl, true_or, or_true, eq_self, List.length_cons, List.length_nil, Nat.reduceAdd, Nat.reduceLT, Nat.reduceLeDiff]
    exact hp h hR0 mKeep_rfl
  rw [if_pos c]
  rw [if_pos c] at hp
  obtain ⟨q, j, rfl, rfl, hq, hfr, hj, hK, hcj⟩ := isX_c hI c
  rw [hfr, hcj] at hp
  have hs := hL.2.1 q hq
  have hw := hI.2.1 q hq
  have hnP := nP_le hw
  simp (disch := omega) only [↓EVi, ↓EVc, ↓ft_X7_degree, ↓reduceIte, ↓EV_obs, ↓EV_obn, ↓EV_ais, ↓EV_ain, ↓EV_ob h0, mdF, mRun, List.mem_cons, List.not_mem_nil, or_false, mtab_eq, Nat.reduceEqDiff, Nat.zero_add, hd1, mset2, b10, b00, not_true_eq_false, not_false_eq_true, true_implies, false_implies, implies_true, and_true, true_and, Nat.le_refl, true_or, or_true, eq_self, List.length_cons, List.length_nil, Nat.reduceAdd, Nat.reduceLT, Nat.reduceLeDiff]
  refine m_goAlong (by omega) hw hs (by omega) hM (fun h1 v1 a1 htr hM1 hk1 hv1 ha1 => ?_)
  have e24 : (v1 24 ≤ 1) ↔ ¬ 1 < nP (S.1.getD q []) := by
    rw [htr.2.1]
    show nI (nP (S.1.getD q [])) ≤ 1 ↔ _
    simp (disch := omega) only [z_nI, z_lit, z_neg, z_add, z_sub, z_mul, z_lt, z_le, z_eq, z_in, z_cl]
    omega
  simp (disch := omega) only [↓EVi, ↓EVc, ↓ft_X7_degree, ↓reduceIte, ↓EV_obs, ↓EV_obn, ↓EV_ais, ↓EV_ain, ↓EV_ob hM1.1, mdF, mRun, List.mem_cons, List.not_mem_nil, or_false, mtab_eq, Nat.reduceEqDiff, Nat.zero_add, hd1, mset2, b10, b00, not_true_eq_false, not_false_eq_true, true_implies, false_implies, implies_true, and_true, true_and, Nat.le_refl, true_or, or_true, eq_self, List.length_cons, List.length_nil, Nat.reduceAdd, Nat.reduceLT, Nat.reduceLeDiff]
  have fin := hp h1 ⟨v1, a1, hM1, MRel_tr hL hv1 ha1⟩ hk1
  have hs1 : slotR a1 q (S.1.getD q []) := slotR_congr (ha1 1 (by decide)) (ha1 2 (by decide)) (ha1 3 (by decide)) hs
  refine ⟨fun z => ?_, fun z => ?_⟩
  · rw [if_neg (e24.mp z)] at fin
    refine m_degreeOf hw hs1 (by omega) htr hM1 hj hK ?_
    simp (disch := omega) only [↓EVi, ↓EVc, ↓ft_X7_degree, ↓reduceIte, ↓EV_obs, ↓EV_obn, ↓EV_ais, ↓EV_ain, mdF, mRun, List.mem_cons, List.not_mem_nil, or_false, mtab_eq, Nat.reduceEqDiff, Nat.zero_add, hd1, mset2, b10, b00, not_true_eq_false, not_false_eq_true, true_implies, false_implies, implies_true, and_true, true_and, Nat.le_refl, true_or, or_true, eq_self, List.length_cons, List.length_nil, Nat.reduceAdd, Nat.reduceLT, Nat.reduceLeDiff]
    exact fin
  · rw [if_pos (Classical.not_not.mp (fun y => z (e24.mpr y)))] at fin
    exact fin
set_option maxRecDepth 10000 in
theorem M_about {f w : Int32} (hd : 4 ≤ d) (hI : SInv S) (hR : MR h G M S) (hp : ∀ h', MR h' G M (aAbout f w S).2 → mKeep h h' M (M + 17) → post (some (.int (aAbout f w S).1)) h') : MC G MX7_about d 0 0 [.ref M, .int f, .int w] h N post := by
  have hR0 := hR
  have h8 := hI.1
  have hd1 : 1 ≤ d := by omega
  obtain ⟨v, a, hM, hL⟩ := hR
  have h0 := hM.1
  unfold aAbout at hp
  refine MC.of (L0 := [some (.ref M), some (.int f), some (.int w), none, none, none, none, none]) gd_X7_about (Nat.le_of_ble_eq_true rfl) rfl (MW.run gd_X7_about [38] 30 ?_)
  simp (disch := omega) only [↓EVi, ↓EVc, ↓ft_X7_about, ↓reduceIte, ↓EV_obs, ↓EV_obn, ↓EV_ais, ↓EV_ain, ↓EV_ob h0, mdF, mRun, List.mem_cons, List.not_mem_nil, or_false, mtab_eq, Nat.reduceEqDiff, Nat.zero_add, hd1, mset2, b10, b00, not_true_eq_false, not_false_eq_true, true_implies, false_implies, implies_true, and_true, true_and, Nat.le_refl, true_or, or_true, eq_self, List.length_cons, List.length_nil, Nat.reduceAdd, Nat.reduceLT, Nat.reduceLeDiff]
  refine c_is (by omega) hI hM hL ?_
  rcases isF_c S f hI with c | ⟨r, hr, rfl, c, hfr⟩
  · rw [if_neg (fun z => c z.1)] at hp
    rw [if_neg c]
    simp (disch := omega) only [↓EVi, ↓EVc, ↓ft_X7_about, ↓reduceIte, ↓EV_obs, ↓EV_obn, ↓EV_ais, ↓EV_ain, ↓EV_ob h0, mdF, mRun, List.mem_cons, List.not_mem_nil, or_false, mtab_eq, Nat.reduceEqDiff, Nat.zero_add, hd1, mset2, b10, b00, not_true_eq_false, not_false_eq_true, true_implies, false_implies, implies_true, and_true, true_and, Nat.le_refl, true_or, or_true, eq_self, List.length_cons, List.length_nil, Nat.reduceAdd, Nat.reduceLT, Nat.reduceLeDiff]
    exact hp h hR0 mKeep_rfl
  rw [if_pos c]
  simp (disch := omega) only [↓EVi, ↓EVc, ↓ft_X7_about, ↓reduceIte, ↓EV_obs, ↓EV_obn, ↓EV_ais, ↓EV_ain, ↓EV_ob h0, mdF, mRun, List.mem_cons, List.not_mem_nil, or_false, mtab_eq, Nat.reduceEqDiff, Nat.zero_add, hd1, mset2, b10, b00, not_true_eq_false, not_false_eq_true, true_implies, false_implies, implies_true, and_true, true_and, Nat.le_refl, true_or, or_true, eq_self, List.length_cons, List.length_nil, Nat.reduceAdd, Nat.reduceLT, Nat.reduceLeDiff]
  refine m_in32 (lo := 0) (hi := 5) ?_
  by_cases c1 : 0 ≤ w ∧ w ≤ 5
  case neg =>
    rw [if_neg c1]
    rw [if_neg (fun z => c1 z.2)] at hp
    simp (disch := omega) only [↓EVi, ↓EVc, ↓ft_X7_about, ↓reduceIte, ↓EV_obs, ↓EV_obn, ↓EV_ais, ↓EV_ain, ↓EV_ob h0, mdF, mRun, List.mem_cons, List.not_mem_nil, or_false, mtab_eq, Nat.reduceEqDiff, Nat.zero_add, hd1, mset2, b10, b00, not_true_eq_false, not_false_eq_true, true_implies, false_implies, implies_true, and_true, true_and, Nat.le_refl, true_or, or_true, eq_self, List.length_cons, List.length_nil, Nat.reduceAdd, Nat.reduceLT, Nat.reduceLeDiff]
    exact hp h hR0 mKeep_rfl
  rw [if_pos c1]
  rw [if_pos ⟨c, c1⟩, hfr] at hp
  have hs0 := hL.2.1 r hr
  have hw := hI.2.1 r hr
  have b := vld_bd hw.1
  simp (disch := omega) only [↓EVi, ↓EVc, ↓ft_X7_about, ↓reduceIte, ↓EV_obs, ↓EV_obn, ↓EV_ais, ↓EV_ain, ↓EV_ob h0, mdF, mRun, List.mem_cons, List.not_mem_nil, or_false, mtab_eq, Nat.reduceEqDiff, Nat.zero_add, hd1, mset2, b10, b00, not_true_eq_false, not_false_eq_true, true_implies, false_implies, implies_true, and_true, true_and, Nat.le_refl, true_or, or_true, eq_self, List.length_cons, List.length_nil, Nat.reduceAdd, Nat.reduceLT, Nat.reduceLeDiff]
  refine m_goAlong (by omega) hw hs0 (by omega) hM (fun h1 v1 a1 htr hM1 hk1 hv1 ha1 => ?_)
  have fin := hp h1 ⟨v1, a1, hM1, MRel_tr hL hv1 ha1⟩ hk1
  have hs : slotR a1 r (S.1.getD r []) := slotR_congr (ha1 1 (by decide)) (ha1 2 (by decide)) (ha1 3 (by decide)) hs0
  clear hp
  generalize S.1.getD r [] = es at *
  have h01 := hM1.1
  have a1' : h1 (M + 1) = some (.inl (gC G 0, 8, .inl (a1 1))) := hM1.2 1 (by decide) (by decide)
  have a2' : h1 (M + 2) = some (.inl (gC G 0, 240, .inl (a1 2))) := hM1.2 2 (by decide) (by decide)
  have hcf : (nI r).toNatClampNeg = r := nI_clamp (by omega)
  have vf : vp_in (nI r) 8 := vp_in_nI (by omega) (by decide)
  have hs1 := hs.1
  simp (disch := omega) only [↓EVi, ↓EVc, ↓ft_X7_about, ↓reduceIte, ↓EV_obs, ↓EV_obn, ↓EV_ais, ↓EV_ain, ↓EV_ob h01, mdF, mRun, List.mem_cons, List.not_mem_nil, or_false, mtab_eq, Nat.reduceEqDiff, Nat.zero_add, hd1, mset2, b10, b00, not_true_eq_false, not_false_eq_true, true_implies, false_implies, implies_true, and_true, true_and, Nat.le_refl, true_or, or_true, eq_self, List.length_cons, List.length_nil, Nat.reduceAdd, Nat.reduceLT, Nat.reduceLeDiff]
  refine MW.upto es.length (fun i L h' => ∃ x7, L = [some (.ref M), some (.int (nI r)), some (.int w), some (.int (nI (dthC es i))), some (.int (nI (mstC es i))), some (.int (nI (plsC es i))), some (.int (nI i)), x7] ∧ h' = h1) ?_ ?_ 0 _ _ (Nat.zero_le _) ⟨none, rfl, rfl⟩
  · rintro i L h' hi ⟨x7, rfl, rfl⟩ ih
    have f1 : (nI es.length ≤ nI i) = False := eq_false (by simp (disch := omega) only [z_nI, z_lit, z_neg, z_add, z_sub, z_mul, z_lt, z_le, z_eq, z_in, z_cl]; omega)
    have hce : (30 * nI r + nI i).toNatClampNeg = 30 * r + i := by simp (disch := omega) only [z_nI, z_lit, z_neg, z_add, z_sub, z_mul, z_lt, z_le, z_eq, z_in, z_cl]; omega
    have ve : vp_in (30 * nI r + nI i) 240 := by simp (disch := omega) only [z_nI, z_lit, z_neg, z_add, z_sub, z_mul, z_lt, z_le, z_eq, z_in, z_cl]; omega
    obtain ⟨hK, hP⟩ := hs.2 i hi
    have sm := vld_sm hw.1 hi
    have hA := (vld_le hw.1 i (by omega)).2.1
    have ed : dthC es (i + 1) = dthC es i + (if evK es i = 2 then 1 else 0) := rfl
    have ep : plsC es (i + 1) = plsC es i + (if evK es i = 1 ∧ plus es i = true then 1 else 0) := rfl
    have em : mstC es (i + 1) = if mstC es i < aN es i then aN es i else mstC es i := rfl
    have mle : mstC es i ≤ 10 := by
      have key : ∀ j, j ≤ es.length → mstC es j ≤ 10 := by
        intro j
        induction j with
        | zero => intro _; exact Nat.zero_le _
        | succ j ihj =>
          intro hj
          have q1 := ihj (by omega)
          have q2 := (vld_le hw.1 j (by omega)).2.1
          show (if mstC es j < aN es j then aN es j else mstC es j) ≤ 10
          split
          · exact q2
          · exact q1
      exact key i (by omega)
    have st3 : ∀ (D P : Nat), D = dthC es (i + 1) → P = plsC es (i + 1) → MW G MX7_about (mz G d 0 0 post) 109 [some (.ref M), some (.int (nI r)), some (.int w), some (.int (nI D)), some (.int (nI (mstC es i))), some (.int (nI P)), some (.int (nI i)), x7] [] h' (N, 0, 0) := by
      rintro D P rfl rfl
      refine MW.run1 gd_X7_about [38] 20 ?_
      simp (disch := omega) only [↓EVi, ↓EVc, ↓ft_X7_about, ↓reduceIte, ↓EV_obs, ↓EV_obn, ↓EV_ais, ↓EV_ain, ↓EV_ob h01, mdF, mRun, List.mem_cons, List.not_mem_nil, or_false, mtab_eq, Nat.reduceEqDiff, Nat.zero_add, hd1, mset2, b10, b00, not_true_eq_false, not_false_eq_true, true_implies, false_implies, implies_true, and_true, true_and, Nat.le_refl, true_or, or_true, eq_self, List.length_cons, List.length_nil, Nat.reduceAdd, Nat.reduceLT, Nat.reduceLeDiff]
      refine m_ahead (by omega) hM1 hs hw.1 (by omega) (by omega) ?_
      simp (disch := omega) only [↓EVi, ↓EVc, ↓ft_X7_about, ↓reduceIte, ↓EV_obs, ↓EV_obn, ↓EV_ais, ↓EV_ain, ↓EV_ob h01, mdF, mRun, List.mem_cons, List.not_mem_nil, or_false, mtab_eq, Nat.reduceEqDiff, Nat.zero_add, hd1, mset2, b10, b00, not_true_eq_false, not_false_eq_true, true_implies, false_implies, implies_true, and_true, true_and, Nat.le_refl, true_or, or_true, eq_self, List.length_cons, List.length_nil, Nat.reduceAdd, Nat.reduceLT, Nat.reduceLeDiff]
      have q : (nI (ahL (es.take i)) ≤ nI (mstC es i)) ↔ ¬ mstC es i < aN es i := by
        unfold aN
        simp (disch := omega) only [z_nI, z_lit, z_neg, z_add, z_sub, z_mul, z_lt, z_le, z_eq, z_in, z_cl]
        omega
      rw [nI_1]
      have nx : ∀ (X : Nat) (x7 : Option Value), X = mstC es (i + 1) → MW G MX7_about (mz G d 0 0 post) 38 [some (.ref M), some (.int (nI r)), some (.int w), some (.int (nI (dthC es (i + 1)))), some (.int (nI X)), some (.int (nI (plsC es (i + 1)))), some (.int (nI (i + 1))), x7] [] h' (N, 0, 0) := by
        rintro X x7 rfl
        exact ih _ _ ⟨x7, rfl, rfl⟩
      refine ⟨fun z => nx _ _ ?_, fun z => nx _ _ ?_⟩
      · rw [em, if_neg (q.mp z)]
      · rw [em, if_pos (Classical.not_not.mp (fun y => z (q.mpr y)))]
        rfl
    have st2 : ∀ D : Nat, D = dthC es (i + 1) → MW G MX7_about (mz G d 0 0 post) 73 [some (.ref M), some (.int (nI r)), some (.int w), some (.int (nI D)), some (.int (nI (mstC es i))), some (.int (nI (plsC es i))), some (.int (nI i)), x7] [] h' (N, 0, 0) := by
      intro D hD
      refine MW.run1 gd_X7_about [38, 109] 24 ?_
      by_cases k1 : evK es i = 1
      · have f2 : (nI (evK es i) = 1) = True := eq_true (by rw [k1]; rfl)
        simp (disch := omega) only [↓EVk, ↓w_if_eq, ↓w_an_ite, ↓mEndK, ↓w_retK0, ↓w_fitK, ↓w_dupK, ↓w_dup2K, w_an_back, ↓EVd, ↓ft_X7_about, ↓reduceIte, ↓EV_obs, ↓EV_obn, ↓EV_ais, ↓EV_ain, ↓EV_ob h01, ↓EV_ai a2', mdF, mRun, List.mem_cons, List.not_mem_nil, or_false, mtab_eq, Nat.reduceEqDiff, Nat.zero_add, hd1, hce, ve, hK, f2, mset2, b10, b00, not_true_eq_false, not_false_eq_true, true_implies, false_implies, implies_true, and_true, true_and, Nat.le_refl, true_or, or_true, eq_self, List.length_cons, List.length_nil, Nat.reduceAdd, Nat.reduceLT, Nat.reduceLeDiff]
        refine m_isPlus hw hs (by omega) htr hM1 hi k1 ?_
        cases hpl : plus es i with
        | true =>
          simp only [↓reduceIte]
          simp (disch := omega) only [↓EVk, ↓w_if_eq, ↓w_an_ite, ↓mEndK, ↓w_retK0, ↓w_fitK, ↓w_dupK, ↓w_dup2K, w_an_back, ↓EVd, ↓ft_X7_about, ↓reduceIte, ↓EV_obs, ↓EV_obn, ↓EV_ais, ↓EV_ain, ↓EV_ob h01, ↓EV_ai a2', mdF, mRun, List.mem_cons, List.not_mem_nil, or_false, mtab_eq, Nat.reduceEqDiff, Nat.zero_add, hd1, mset2, b10, b00, not_true_eq_false, not_false_eq_true, true_implies, false_implies, implies_true, and_true, true_and, Nat.le_refl, true_or, or_true, eq_self, List.length_cons, List.length_nil, Nat.reduceAdd, Nat.reduceLT, Nat.reduceLeDiff]
          rw [nI_1]
          exact st3 D _ hD (by rw [ep, if_pos ⟨k1, hpl⟩])
        | false =>
          simp only [Bool.false_eq_true, ↓reduceIte]
          simp (disch := omega) only [↓EVk, ↓w_if_eq, ↓w_an_ite, ↓mEndK, ↓w_retK0, ↓w_fitK, ↓w_dupK, ↓w_dup2K, w_an_back, ↓EVd, ↓ft_X7_about, ↓reduceIte, ↓EV_obs, ↓EV_obn, ↓EV_ais, ↓EV_ain, ↓EV_ob h01, ↓EV_ai a2', mdF, mRun, List.mem_cons, List.not_mem_nil, or_false, mtab_eq, Nat.reduceEqDiff, Nat.zero_add, hd1, mset2, b10, b00, not_true_eq_false, not_false_eq_true, true_implies, false_implies, implies_true, and_true, true_and, Nat.le_refl, true_or, or_true, eq_self, List.length_cons, List.length_nil, Nat.reduceAdd, Nat.reduceLT, Nat.reduceLeDiff]
          rw [show nI (plsC es i) + 0 = nI (plsC es i) from nI_add _ 0]
          exact st3 D _ hD (by rw [ep, if_neg (fun z => by rw [hpl] at z; exact absurd z.2 (by decide)), Nat.add_zero])
      · have f2 : (nI (evK es i) = 1) = False := eq_false (fun z => k1 ((nI_eq (b := 1) (by omega) (by omega)).mp z))
        simp (disch := omega) only [↓EVk, ↓w_if_eq, ↓w_an_ite, ↓mEndK, ↓w_retK0, ↓w_fitK, ↓w_dupK, ↓w_dup2K, w_an_back, ↓EVd, ↓ft_X7_about, ↓reduceIte, ↓EV_obs, ↓EV_obn, ↓EV_ais, ↓EV_ain, ↓EV_ob h01, ↓EV_ai a2', mdF, mRun, List.mem_cons, List.not_mem_nil, or_false, mtab_eq, Nat.reduceEqDiff, Nat.zero_add, hd1, hce, ve, hK, f2, mset2, b10, b00, not_true_eq_false, not_false_eq_true, true_implies, false_implies, implies_true, and_true, true_and, Nat.le_refl, true_or, or_true, eq_self, List.length_cons, List.length_nil, Nat.reduceAdd, Nat.reduceLT, Nat.reduceLeDiff]
        rw [show nI (plsC es i) + 0 = nI (plsC es i) from nI_add _ 0]
        exact st3 D _ hD (by rw [ep, if_neg (fun z => k1 z.1), Nat.add_zero])
    refine MW.run1 gd_X7_about [38, 73] 24 ?_
    by_cases k2 : evK es i = 2
    · have f2 : (nI (evK es i) = 2) = True := eq_true (by rw [k2]; rfl)
      simp (disch := omega) only [↓EVk, ↓w_if_eq, ↓w_an_ite, ↓mEndK, ↓w_retK0, ↓w_fitK, ↓w_dupK, ↓w_dup2K, w_an_back, ↓EVd, ↓ft_X7_about, ↓reduceIte, ↓EV_obs, ↓EV_obn, ↓EV_ais, ↓EV_ain, ↓EV_ob h01, ↓EV_ai a1', ↓EV_ai a2', mdF, mRun, List.mem_cons, List.not_mem_nil, or_false, mtab_eq, Nat.reduceEqDiff, Nat.zero_add, hd1, hcf, vf, hs1, f1, hce, ve, hK, f2, mset2, b10, b00, not_true_eq_false, not_false_eq_true, true_implies, false_implies, implies_true, and_true, true_and, Nat.le_refl, true_or, or_true, eq_self, List.length_cons, List.length_nil, Nat.reduceAdd, Nat.reduceLT, Nat.reduceLeDiff]
      rw [nI_1]
      exact st2 _ (by rw [ed, if_pos k2])
    · have f2 : (nI (evK es i) = 2) = False := eq_false (fun z => k2 ((nI_eq (b := 2) (by omega) (by omega)).mp z))
      simp (disch := omega) only [↓EVk, ↓w_if_eq, ↓w_an_ite, ↓mEndK, ↓w_retK0, ↓w_fitK, ↓w_dupK, ↓w_dup2K, w_an_back, ↓EVd, ↓ft_X7_about, ↓reduceIte, ↓EV_obs, ↓EV_obn, ↓EV_ais, ↓EV_ain, ↓EV_ob h01, ↓EV_ai a1', ↓EV_ai a2', mdF, mRun, List.mem_cons, List.not_mem_nil, or_false, mtab_eq, Nat.reduceEqDiff, Nat.zero_add, hd1, hcf, vf, hs1, f1, hce, ve, hK, f2, mset2, b10, b00, not_true_eq_false, not_false_eq_true, true_implies, false_implies, implies_true, and_true, true_and, Nat.le_refl, true_or, or_true, eq_self, List.length_cons, List.length_nil, Nat.reduceAdd, Nat.reduceLT, Nat.reduceLeDiff]
      rw [show nI (dthC es i) + 0 = nI (dthC es i) from nI_add _ 0]
      exact st2 _ (by rw [ed, if_neg k2, Nat.add_zero])
  · rintro L h' ⟨x7, rfl, rfl⟩
    have f1 : (nI es.length ≤ nI es.length) = True := eq_true (nI_le (Nat.le_refl _) (by omega))
    refine MW.run1 gd_X7_about [38, 140] 12 ?_
    simp (disch := omega) only [↓EVk, ↓w_if_eq, ↓w_an_ite, ↓mEndK, ↓w_retK0, ↓w_fitK, ↓w_dupK, ↓w_dup2K, w_an_back, ↓EVd, ↓ft_X7_about, ↓reduceIte, ↓EV_obs, ↓EV_obn, ↓EV_ais, ↓EV_ain, ↓EV_ob h01, ↓EV_ai a1', mdF, mRun, List.mem_cons, List.not_mem_nil, or_false, mtab_eq, Nat.reduceEqDiff, Nat.zero_add, hd1, hcf, vf, hs1, f1, mset2, b10, b00, not_true_eq_false, not_false_eq_true, true_implies, false_implies, implies_true, and_true, true_and, Nat.le_refl, true_or, or_true, eq_self, List.length_cons, List.length_nil, Nat.reduceAdd, Nat.reduceLT, Nat.reduceLeDiff]
    refine MW.run1 gd_X7_about [38] 24 ?_
    have e24 : v1 24 = nI (nP es) := htr.2.1
    simp (disch := omega) only [↓EVi, ↓EVc, ↓ft_X7_about, ↓reduceIte, ↓EV_obs, ↓EV_obn, ↓EV_ais, ↓EV_ain, ↓EV_ob h01, ↓EV_ai a1', mdF, mRun, List.mem_cons, List.not_mem_nil, or_false, mtab_eq, Nat.reduceEqDiff, Nat.zero_add, hd1, hcf, vf, hs1, mset2, b10, b00, not_true_eq_false, not_false_eq_true, true_implies, false_implies, implies_true, and_true, true_and, Nat.le_refl, true_or, or_true, eq_self, List.length_cons, List.length_nil, Nat.reduceAdd, Nat.reduceLT, Nat.reduceLeDiff]
    rw [e24]
    refine ⟨fun z0 => ⟨fun z1 => ⟨fun z2 => ⟨fun z3 => ⟨fun z4 => ?_, fun z4 => ?_⟩, fun z3 => ?_⟩, fun z2 => ?_⟩, fun z1 => m_crossesOf hM1 hs hw.1 (by omega) ?_⟩, fun z0 => ?_⟩
    · rw [if_neg z0, if_neg z1, if_neg z2, if_neg z3, if_neg z4] at fin
      exact fin
    · rw [if_neg z0, if_neg z1, if_neg z2, if_neg z3, if_pos (Classical.not_not.mp z4)] at fin
      exact fin
    · rw [if_neg z0, if_neg z1, if_neg z2, if_pos (Classical.not_not.mp z3)] at fin
      exact fin
    · rw [if_neg z0, if_neg z1, if_pos (Classical.not_not.mp z2)] at fin
      exact fin
    · simp (disch := omega) only [↓EVi, ↓EVc, ↓ft_X7_about, ↓reduceIte, ↓EV_obs, ↓EV_obn, ↓EV_ais, ↓EV_ain, ↓EV_ob h01, mdF, mRun, List.mem_cons, List.not_mem_nil, or_false, mtab_eq, Nat.reduceEqDiff, Nat.zero_add, hd1, mset2, b10, b00, not_true_eq_false, not_false_eq_true, true_implies, false_implies, implies_true, and_true, true_and, Nat.le_refl, true_or, or_true, eq_self, List.length_cons, List.length_nil, Nat.reduceAdd, Nat.reduceLT, Nat.reduceLeDiff]
      rw [if_neg z0, if_pos (Classical.not_not.mp z1)] at fin
      exact fin
    · rw [if_pos (Classical.not_not.mp z0)] at fin
      exact fin
end GOS
