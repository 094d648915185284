/-! Ways: what it tells -/
section WYM
variable {h : mH} {G : mG} {W F : Nat} {es : List Ev} {d N : Nat} {post : Option Value → mH → Prop}
/-- the ways of front es at F, traced -/
def WyB (h : mH) (G : mG) (W F : Nat) (es : List Ev) (R a : Nat → Nat → Int32) : Prop := WaysC h G W F (nI (nA es)) (nI (nP es)) R a ∧ layI es es.length R a ∧ VR es (trT es).1 a ∧ ∀ q, q < nP es → a 6 q = nI (tF es q) ∧ a 8 q = nI (tU es q) ∧ a 7 q = nI (tD es q)
theorem WyR_B (hW : WyR h G W F es) : ∃ R a, WyB h G W F es R a := hW
theorem wy_at {R a : Nat → Nat → Int32} (hw : whl es) (hW : WyB h G W F es R a) {x y : Nat} (hx : x ≤ es.length) (hy : y < aN es x) : arcF es x y < 30 ∧ R x y = nI (arcF es x y) ∧ a 3 (arcF es x y) = nI (tM es (arcF es x y)).1 ∧ a 4 (arcF es x y) = (if (tM es (arcF es x y)).2.1 = true then 1 else 0) ∧ a 5 (arcF es x y) = zI (tM es (arcF es x y)).2.2 ∧ (tM es (arcF es x y)).1 < nP es := by
  have hn := arc_nA hw hx hy
  have hb := bth_le hw
  have hn' : nA es ≤ 30 := by unfold nA; omega
  obtain ⟨m, hm⟩ := Option.isSome_iff_exists.mp (trT_ok hw _ hn)
  have z := hW.2.2.1 _ hn
  have e : tM es (arcF es x y) = m := by unfold tM; rw [hm]; rfl
  rw [hm] at z
  rw [e]
  exact ⟨by omega, hW.2.1.1 x hx y hy, z.1, z.2.1, z.2.2, trc_pb _ _ m hm⟩
set_option maxRecDepth 10000 in
theorem w_isPiece {p : Int32} (hW : WyR h G W F es) (hp : post (some (.int (if 0 ≤ p ∧ p < nI (nP es) then 1 else 0))) h) : MC G MX5_isPiece d 0 0 [.ref W, .int p] h N post := by
  obtain ⟨R, a, hB⟩ := WyR_B hW
  have h0 := hB.1.1
  refine MC.of (L0 := [some (.ref W), some (.int p)]) gd_X5_isPiece (Nat.le_of_ble_eq_true rfl) rfl (MW.run gd_X5_isPiece [] 12 ?_)
  simp (disch := omega) only [↓EVi, ↓EVc, ↓ft_X5_isPiece, ↓reduceIte, ↓EV_obs, ↓EV_obn, ↓EV_ais, ↓EV_ain, ↓EV_ob h0, mdF, mRun, List.mem_cons, List.not_mem_nil, or_false, mtab_eq, Nat.reduceEqDiff, Nat.zero_add, mset2, b10, b00, not_true_eq_false, not_false_eq_true, true_implies, false_implies, implies_true, and_true, true_and, Nat.le_refl, true_or, or_true, eq_self, List.length_cons, List.length_nil, Nat.reduceAdd, Nat.reduceLT, Nat.reduceLeDiff]
  by_cases c1 : p < 0
  · rw [if_neg (fun z => by rw [← Int32.not_lt] at z; exact z.1 c1)] at hp
    simp only [c1, true_implies, not_true_eq_false, not_false_eq_true, false_implies, true_and, and_true]
    exact hp
  · by_cases c2 : p < nI (nP es)
    · rw [if_pos ⟨by rw [← Int32.not_lt]; exact c1, c2⟩] at hp
      simp only [c1, Int32.not_le.mpr c2, true_implies, not_true_eq_false, not_false_eq_true, false_implies, true_and, and_true]
      exact hp
    · rw [if_neg (fun z => c2 z.2)] at hp
      simp only [c1, Int32.not_lt.mp c2, true_implies, not_true_eq_false, not_false_eq_true, false_implies, true_and, and_true]
      exact hp
set_option maxRecDepth 10000 in
theorem w_pieceAt {i k : Nat} (hw : whl es) (hW : WyR h G W F es) (hi : i ≤ es.length) (hk : k < aN es i) (hp : post (some (.int (nI (tM es (arcF es i k)).1))) h) : MC G MX5_pieceAt d 0 0 [.ref W, .int (nI i), .int (nI k)] h N post := by
  obtain ⟨R, a, hB⟩ := WyR_B hW
  obtain ⟨t1, t2, t3, -⟩ := wy_at hw hB hi hk
  have b30 := (vld_bd hw.1).1
  have b10 := (aN_le hw hi hk).2
  have h0 := hB.1.1
  have h5 := hB.1.2.1
  have r := hB.1.2.2.1 i (by omega)
  have a3 : h (W + 40) = some (.inl (gC G 0, 30, .inl (a 3))) := hB.1.2.2.2 3 (by decide)
  have ci : (nI i).toNatClampNeg = i := nI_clamp (by omega)
  have vi : vp_in (nI i) 31 := vp_in_nI (by omega) (by decide)
  have ck : (nI k).toNatClampNeg = k := nI_clamp (by omega)
  have vk : vp_in (nI k) 10 := vp_in_nI (by omega) (by decide)
  have ca : (nI (arcF es i k)).toNatClampNeg = arcF es i k := nI_clamp (by omega)
  have va : vp_in (nI (arcF es i k)) 30 := vp_in_nI (by omega) (by decide)
  refine MC.of (L0 := [some (.ref W), some (.int (nI i)), some (.int (nI k))]) gd_X5_pieceAt (Nat.le_of_ble_eq_true rfl) rfl (MW.run gd_X5_pieceAt [] 14 ?_)
  simp (disch := omega) only [↓EVi, ↓EVc, ↓ft_X5_pieceAt, ↓reduceIte, ↓EV_obs, ↓EV_obn, ↓EV_ais, ↓EV_ain, ↓EV_ob h0, ↓EV_ar h5, ↓EV_arn, ↓EV_ai r, ↓EV_ai a3, mdF, mRun, List.mem_cons, List.not_mem_nil, or_false, mtab_eq, Nat.reduceEqDiff, Nat.zero_add, ci, vi, ck, vk, t2, ca, va, t3, mset2, b10, b00, not_true_eq_false, not_false_eq_true, true_implies, false_implies, implies_true, and_true, true_and, Nat.le_refl, true_or, or_true, eq_self, List.length_cons, List.length_nil, Nat.reduceAdd, Nat.reduceLT, Nat.reduceLeDiff]
  exact hp
set_option maxRecDepth 10000 in
theorem w_lowerArc {i : Nat} (hw : whl es) (hF : FrontR h G F es) (hW : WyR h G W F es) (hi : i < es.length) (hK : evK es i = 1) (hp : post (some (.int (nI (arcF es i (evP es i))))) h) : MC G MX5_lowerArc d 0 0 [.ref W, .int (nI i)] h N post := by
  obtain ⟨R, a, hB⟩ := WyR_B hW
  obtain ⟨-, K, P, A, ⟨g0, -, g2, -⟩, hKP, -⟩ := hF
  have b30 := (vld_bd hw.1).1
  have ho := (ev_ok hw.1 hi).2.2.2.1 hK
  have h10 := (ev_ok hw.1 hi).2.1
  have eP : P i = nI (evP es i) := (hKP i hi).2
  obtain ⟨t1, t2, -⟩ := wy_at hw hB (x := i) (y := evP es i) (by omega) (by omega)
  have h0 := hB.1.1
  have h5 := hB.1.2.1
  have r := hB.1.2.2.1 i (by omega)
  have ci : (nI i).toNatClampNeg = i := nI_clamp (by omega)
  have vi : vp_in (nI i) 31 := vp_in_nI (by omega) (by decide)
  have vi' : vp_in (nI i) 30 := vp_in_nI (by omega) (by decide)
  have ck : (nI (evP es i)).toNatClampNeg = evP es i := nI_clamp (by omega)
  have vk : vp_in (nI (evP es i)) 10 := vp_in_nI (by omega) (by decide)
  refine MC.of (L0 := [some (.ref W), some (.int (nI i))]) gd_X5_lowerArc (Nat.le_of_ble_eq_true rfl) rfl (MW.run gd_X5_lowerArc [] 14 ?_)
  simp (disch := omega) only [↓EVi, ↓EVc, ↓ft_X5_lowerArc, ↓reduceIte, ↓EV_obs, ↓EV_obn, ↓EV_ais, ↓EV_ain, ↓EV_ob h0, ↓EV_ob g0, ↓EV_ar h5, ↓EV_arn, ↓EV_ai r, ↓EV_ai g2, mdF, mRun, List.mem_cons, List.not_mem_nil, or_false, mtab_eq, Nat.reduceEqDiff, Nat.zero_add, ci, vi, vi', eP, ck, vk, t2, mset2, b10, b00, not_true_eq_false, not_false_eq_true, true_implies, false_implies, implies_true, and_true, true_and, Nat.le_refl, true_or, or_true, eq_self, List.length_cons, List.length_nil, Nat.reduceAdd, Nat.reduceLT, Nat.reduceLeDiff]
  exact hp
set_option maxRecDepth 10000 in
theorem w_upperArc {i : Nat} (hw : whl es) (hF : FrontR h G F es) (hW : WyR h G W F es) (hi : i < es.length) (hK : evK es i = 1) (hp : post (some (.int (nI (arcF es i (evP es i + 1))))) h) : MC G MX5_upperArc d 0 0 [.ref W, .int (nI i)] h N post := by
  obtain ⟨R, a, hB⟩ := WyR_B hW
  obtain ⟨-, K, P, A, ⟨g0, -, g2, -⟩, hKP, -⟩ := hF
  have b30 := (vld_bd hw.1).1
  have ho := (ev_ok hw.1 hi).2.2.2.1 hK
  have h10 := (ev_ok hw.1 hi).2.1
  have eP : P i = nI (evP es i) := (hKP i hi).2
  obtain ⟨t1, t2, -⟩ := wy_at hw hB (x := i) (y := evP es i + 1) (by omega) (by omega)
  have h0 := hB.1.1
  have h5 := hB.1.2.1
  have r := hB.1.2.2.1 i (by omega)
  have ci : (nI i).toNatClampNeg = i := nI_clamp (by omega)
  have vi : vp_in (nI i) 31 := vp_in_nI (by omega) (by decide)
  have vi' : vp_in (nI i) 30 := vp_in_nI (by omega) (by decide)
  have ck : (nI (evP es i + 1)).toNatClampNeg = evP es i + 1 := nI_clamp (by omega)
  have vk : vp_in (nI (evP es i + 1)) 10 := vp_in_nI (by omega) (by decide)
  refine MC.of (L0 := [some (.ref W), some (.int (nI i))]) gd_X5_upperArc (Nat.le_of_ble_eq_true rfl) rfl (MW.run gd_X5_upperArc [] 16 ?_)
  simp (disch := omega) only [↓EVi, ↓EVc, ↓ft_X5_upperArc, ↓reduceIte, ↓EV_obs, ↓EV_obn, ↓EV_ais, ↓EV_ain, ↓EV_ob h0, ↓EV_ob g0, ↓EV_ar h5, ↓EV_arn, ↓EV_ai r, ↓EV_ai g2, mdF, mRun, List.mem_cons, List.not_mem_nil, or_false, mtab_eq, Nat.reduceEqDiff, Nat.zero_add, ci, vi, vi', eP, nI_1, ck, vk, t2, mset2, b10, b00, not_true_eq_false, not_false_eq_true, true_implies, false_implies, implies_true, and_true, true_and, Nat.le_refl, true_or, or_true, eq_self, List.length_cons, List.length_nil, Nat.reduceAdd, Nat.reduceLT, Nat.reduceLeDiff]
  exact hp
set_option maxRecDepth 10000 in
theorem w_isPlus {i : Nat} (hd : 1 ≤ d) (hw : whl es) (hF : FrontR h G F es) (hW : WyR h G W F es) (hi : i < es.length) (hK : evK es i = 1) (hp : post (some (.int (if plus es i = true then 1 else 0))) h) : MC G MX5_isPlus d 0 0 [.ref W, .int (nI i)] h N post := by
  obtain ⟨R, a, hB⟩ := WyR_B hW
  have b30 := (vld_bd hw.1).1
  have ho := (ev_ok hw.1 hi).2.2.2.1 hK
  have h10 := (ev_ok hw.1 hi).2.1
  obtain ⟨t1, -, -, t4, -⟩ := wy_at hw hB (x := i) (y := evP es i) (by omega) (by omega)
  obtain ⟨u1, -, -, u4, -⟩ := wy_at hw hB (x := i) (y := evP es i + 1) (by omega) (by omega)
  have h0 := hB.1.1
  have a4 : h (W + 41) = some (.inl (gC G 2, 30, .inl (a 4))) := hB.1.2.2.2 4 (by decide)
  have c1 : (nI (arcF es i (evP es i))).toNatClampNeg = arcF es i (evP es i) := nI_clamp (by omega)
  have v1 : vp_in (nI (arcF es i (evP es i))) 30 := vp_in_nI t1 (by decide)
  have c2 : (nI (arcF es i (evP es i + 1))).toNatClampNeg = arcF es i (evP es i + 1) := nI_clamp (by omega)
  have v2 : vp_in (nI (arcF es i (evP es i + 1))) 30 := vp_in_nI u1 (by decide)
  have key : ((if (tM es (arcF es i (evP es i))).2.1 = true then (1 : Int32) else 0) = (if (tM es (arcF es i (evP es i + 1))).2.1 = true then 1 else 0)) ↔ plus es i = true := by
    unfold plus loA upA
    rw [beq_iff_eq]
    cases (tM es (arcF es i (evP es i))).2.1 <;> cases (tM es (arcF es i (evP es i + 1))).2.1 <;> decide
  refine MC.of (L0 := [some (.ref W), some (.int (nI i))]) gd_X5_isPlus (Nat.le_of_ble_eq_true rfl) rfl (MW.run gd_X5_isPlus [] 24 ?_)
  simp (disch := omega) only [↓EVi, ↓EVc, ↓ft_X5_isPlus, ↓reduceIte, ↓EV_obs, ↓EV_obn, ↓EV_ais, ↓EV_ain, ↓EV_ob h0, mdF, mRun, List.mem_cons, List.not_mem_nil, or_false, mtab_eq, Nat.reduceEqDiff, Nat.zero_add, hd, mset2, b10, b00, not_true_eq_false, not_false_eq_true, true_implies, false_implies, implies_true, and_true, true_and, Nat.le_refl, true_or, or_true, eq_self, List.length_cons, List.length_nil, Nat.reduceAdd, Nat.reduceLT, Nat.reduceLeDiff]
  refine w_lowerArc hw hF hW hi hK ?_
  simp (disch := omega) only [↓EVi, ↓EVc, ↓ft_X5_isPlus, ↓reduceIte, ↓EV_obs, ↓EV_obn, ↓EV_ais, ↓EV_ain, ↓EV_ob h0, ↓EV_ai a4, mdF, mRun, List.mem_cons, List.not_mem_nil, or_false, mtab_eq, Nat.reduceEqDiff, Nat.zero_add, hd, c1, v1, t4, mset2, b10, b00, not_true_eq_false, not_false_eq_true, true_implies, false_implies, implies_true, and_true, true_and, Nat.le_refl, true_or, or_true, eq_self, List.length_cons, List.length_nil, Nat.reduceAdd, Nat.reduceLT, Nat.reduceLeDiff]
  refine w_upperArc hw hF hW hi hK ?_
  simp (disch := omega) only [↓EVi, ↓EVc, ↓ft_X5_isPlus, ↓reduceIte, ↓EV_obs, ↓EV_obn, ↓EV_ais, ↓EV_ain, ↓EV_ob h0, ↓EV_ai a4, mdF, mRun, List.mem_cons, List.not_mem_nil, or_false, mtab_eq, Nat.reduceEqDiff, Nat.zero_add, hd, c2, v2, u4, mset2, b10, b00, not_true_eq_false, not_false_eq_true, true_implies, false_implies, implies_true, and_true, true_and, Nat.le_refl, true_or, or_true, eq_self, List.length_cons, List.length_nil, Nat.reduceAdd, Nat.reduceLT, Nat.reduceLeDiff]
  refine ⟨fun z => ?_, fun z => ?_⟩
  · rw [if_neg (fun q => z (key.mpr q))] at hp
    exact hp
  · rw [if_pos (key.mp (Classical.not_not.mp z))] at hp
    exact hp
set_option maxRecDepth 10000 in
theorem w_plusCrosses (hd : 2 ≤ d) (hw : whl es) (hF : FrontR h G F es) (hW : WyR h G W F es) (hp : post (some (.int (nI (plsC es es.length)))) h) : MC G MX5_plusCrosses d 0 0 [.ref W] h N post := by
  have hd1 : 1 ≤ d := by omega
  obtain ⟨R, a, hB⟩ := WyR_B hW
  obtain ⟨-, K, P, A, ⟨g0, g1, -, -⟩, hKP, -⟩ := id hF
  have b30 := (vld_bd hw.1).1
  have h0 := hB.1.1
  refine MC.of (L0 := [some (.ref W), none, none]) gd_X5_plusCrosses (Nat.le_of_ble_eq_true rfl) rfl (MW.run gd_X5_plusCrosses [4] 12 ?_)
  simp (disch := omega) only [↓EVi, ↓EVc, ↓ft_X5_plusCrosses, ↓reduceIte, ↓EV_obs, ↓EV_obn, ↓EV_ais, ↓EV_ain, ↓EV_ob h0, mdF, mRun, List.mem_cons, List.not_mem_nil, or_false, mtab_eq, Nat.reduceEqDiff, Nat.zero_add, mset2, b10, b00, not_true_eq_false, not_false_eq_true, true_implies, false_implies, implies_true, and_true, true_and, Nat.le_refl, true_or, or_true, eq_self, List.length_cons, List.length_nil, Nat.reduceAdd, Nat.reduceLT, Nat.reduceLeDiff]
  refine MW.upto es.length (fun i L h' => L = [some (.ref W), some (.int (nI (plsC es i))), some (.int (nI i))] ∧ h' = h) ?_ ?_ 0 _ _ (Nat.zero_le _) ⟨rfl, rfl⟩
  · rintro i L h' hi ⟨rfl, rfl⟩ ih
    have w1 : (nI es.length ≤ nI i) = False := eq_false (by simp (disch := omega) only [z_nI, z_lit, z_neg, z_add, z_sub, z_mul, z_lt, z_le, z_eq, z_in, z_cl]; omega)
    have ci : (nI i).toNatClampNeg = i := nI_clamp (by omega)
    have vi : vp_in (nI i) 30 := vp_in_nI (by omega) (by decide)
    have eK : K i = nI (evK es i) := (hKP i hi).1
    have sm := vld_sm hw.1 hi
    have e1 : plsC es (i + 1) = plsC es i + (if evK es i = 1 ∧ plus es i = true then 1 else 0) := rfl
    have nx : plsC es (i + 1) = plsC es i → MW G MX5_plusCrosses (mz G d 0 0 post) 4 [some (.ref W), some (.int (nI (plsC es i))), some (.int (nI (i + 1)))] [] h' (N, 0, 0) := fun e => ih _ _ ⟨by rw [e], rfl⟩
    have nx1 : plsC es (i + 1) = plsC es i + 1 → MW G MX5_plusCrosses (mz G d 0 0 post) 4 [some (.ref W), some (.int (nI (plsC es i + 1))), some (.int (nI (i + 1)))] [] h' (N, 0, 0) := fun e => ih _ _ ⟨by rw [e], rfl⟩
    refine MW.run1 gd_X5_plusCrosses [4] 24 ?_
    by_cases k1 : evK es i = 1
    · have f2 : (nI (evK es i) = 1) = True := eq_true (by rw [k1]; rfl)
      simp (disch := omega) only [↓EVk, ↓w_if_eq, ↓w_an_ite, ↓mEndK, ↓w_retK0, ↓w_fitK, ↓w_dupK, ↓w_dup2K, w_an_back, ↓EVd, ↓ft_X5_plusCrosses, ↓reduceIte, ↓EV_obs, ↓EV_obn, ↓EV_ais, ↓EV_ain, ↓EV_ob h0, ↓EV_ob g0, ↓EV_ai g1, mdF, mRun, List.mem_cons, List.not_mem_nil, or_false, mtab_eq, Nat.reduceEqDiff, Nat.zero_add, hd1, w1, ci, vi, eK, f2, mset2, b10, b00, not_true_eq_false, not_false_eq_true, true_implies, false_implies, implies_true, and_true, true_and, Nat.le_refl, true_or, or_true, eq_self, List.length_cons, List.length_nil, Nat.reduceAdd, Nat.reduceLT, Nat.reduceLeDiff]
      refine w_isPlus (by omega) hw hF hW hi k1 ?_
      cases hpl : plus es i with
      | true =>
        rw [if_pos ⟨k1, hpl⟩] at e1
        simp only [↓reduceIte]
        simp (disch := omega) only [↓EVk, ↓w_if_eq, ↓w_an_ite, ↓mEndK, ↓w_retK0, ↓w_fitK, ↓w_dupK, ↓w_dup2K, w_an_back, ↓EVd, ↓ft_X5_plusCrosses, ↓reduceIte, ↓EV_obs, ↓EV_obn, ↓EV_ais, ↓EV_ain, mdF, mRun, List.mem_cons, List.not_mem_nil, or_false, mtab_eq, Nat.reduceEqDiff, Nat.zero_add, nI_1, mset2, b10, b00, not_true_eq_false, not_false_eq_true, true_implies, false_implies, implies_true, and_true, true_and, Nat.le_refl, true_or, or_true, eq_self, List.length_cons, List.length_nil, Nat.reduceAdd, Nat.reduceLT, Nat.reduceLeDiff]
        exact nx1 e1
      | false =>
        rw [if_neg (fun z => by rw [hpl] at z; exact absurd z.2 (by decide))] at e1
        simp only [Bool.false_eq_true, ↓reduceIte]
        simp (disch := omega) only [↓EVk, ↓w_if_eq, ↓w_an_ite, ↓mEndK, ↓w_retK0, ↓w_fitK, ↓w_dupK, ↓w_dup2K, w_an_back, ↓EVd, ↓ft_X5_plusCrosses, ↓reduceIte, ↓EV_obs, ↓EV_obn, ↓EV_ais, ↓EV_ain, mdF, mRun, List.mem_cons, List.not_mem_nil, or_false, mtab_eq, Nat.reduceEqDiff, Nat.zero_add, nI_1, mset2, b10, b00, not_true_eq_false, not_false_eq_true, true_implies, false_implies, implies_true, and_true, true_and, Nat.le_refl, true_or, or_true, eq_self, List.length_cons, List.length_nil, Nat.reduceAdd, Nat.reduceLT, Nat.reduceLeDiff]
        exact nx e1
    · have f2 : (nI (evK es i) = 1) = False := eq_false (fun z => k1 ((nI_eq (b := 1) (by omega) (by omega)).mp z))
      rw [if_neg (fun z => k1 z.1)] at e1
      simp (disch := omega) only [↓EVk, ↓w_if_eq, ↓w_an_ite, ↓mEndK, ↓w_retK0, ↓w_fitK, ↓w_dupK, ↓w_dup2K, w_an_back, ↓EVd, ↓ft_X5_plusCrosses, ↓reduceIte, ↓EV_obs, ↓EV_obn, ↓EV_ais, ↓EV_ain, ↓EV_ob h0, ↓EV_ob g0, ↓EV_ai g1, mdF, mRun, List.mem_cons, List.not_mem_nil, or_false, mtab_eq, Nat.reduceEqDiff, Nat.zero_add, hd1, w1, ci, vi, eK, f2, nI_1, mset2, b10, b00, not_true_eq_false, not_false_eq_true, true_implies, false_implies, implies_true, and_true, true_and, Nat.le_refl, true_or, or_true, eq_self, List.length_cons, List.length_nil, Nat.reduceAdd, Nat.reduceLT, Nat.reduceLeDiff]
      exact nx e1
  · rintro L h' ⟨rfl, rfl⟩
    have w1 : (nI es.length ≤ nI es.length) = True := eq_true (nI_le (Nat.le_refl _) (by omega))
    refine MW.run1 gd_X5_plusCrosses [4] 10 ?_
    simp (disch := omega) only [↓EVk, ↓w_if_eq, ↓w_an_ite, ↓mEndK, ↓w_retK0, ↓w_fitK, ↓w_dupK, ↓w_dup2K, w_an_back, ↓EVd, ↓ft_X5_plusCrosses, ↓reduceIte, ↓EV_obs, ↓EV_obn, ↓EV_ais, ↓EV_ain, ↓EV_ob h0, ↓EV_ob g0, mdF, mRun, List.mem_cons, List.not_mem_nil, or_false, mtab_eq, Nat.reduceEqDiff, Nat.zero_add, w1, mset2, b10, b00, not_true_eq_false, not_false_eq_true, true_implies, false_implies, implies_true, and_true, true_and, Nat.le_refl, true_or, or_true, eq_self, List.length_cons, List.length_nil, Nat.reduceAdd, Nat.reduceLT, Nat.reduceLeDiff]
    exact hp
set_option maxRecDepth 10000 in
theorem w_signSum {p q : Nat} (hd : 2 ≤ d) (hw : whl es) (hF : FrontR h G F es) (hW : WyR h G W F es) (hp15 : p < 15) (hq15 : q < 15) (hp : post (some (.int (zI (ssM es p q es.length)))) h) : MC G MX5_signSum d 0 0 [.ref W, .int (nI p), .int (nI q)] h N post := by
  have hd1 : 1 ≤ d := by omega
  obtain ⟨R, a, hB⟩ := WyR_B hW
  obtain ⟨-, K, P, A, ⟨g0, g1, -, -⟩, hKP, -⟩ := id hF
  have b30 := (vld_bd hw.1).1
  have hnP := nP_le hw
  have h0 := hB.1.1
  have a3 : h (W + 40) = some (.inl (gC G 0, 30, .inl (a 3))) := hB.1.2.2.2 3 (by decide)
  refine MC.of (L0 := [some (.ref W), some (.int (nI p)), some (.int (nI q)), none, none]) gd_X5_signSum (Nat.le_of_ble_eq_true rfl) rfl (MW.run gd_X5_signSum [5] 12 ?_)
  simp (disch := omega) only [↓EVi, ↓EVc, ↓ft_X5_signSum, ↓reduceIte, ↓EV_obs, ↓EV_obn, ↓EV_ais, ↓EV_ain, ↓EV_ob h0, mdF, mRun, List.mem_cons, List.not_mem_nil, or_false, mtab_eq, Nat.reduceEqDiff, Nat.zero_add, mset2, b10, b00, not_true_eq_false, not_false_eq_true, true_implies, false_implies, implies_true, and_true, true_and, Nat.le_refl, true_or, or_true, eq_self, List.length_cons, List.length_nil, Nat.reduceAdd, Nat.reduceLT, Nat.reduceLeDiff]
  refine MW.upto es.length (fun i L h' => L = [some (.ref W), some (.int (nI p)), some (.int (nI q)), some (.int (zI (ssM es p q i))), some (.int (nI i))] ∧ h' = h) ?_ ?_ 0 _ _ (Nat.zero_le _) ⟨rfl, rfl⟩
  · rintro i L h' hi ⟨rfl, rfl⟩ ih
    have w1 : (nI es.length ≤ nI i) = False := eq_false (by simp (disch := omega) only [z_nI, z_lit, z_neg, z_add, z_sub, z_mul, z_lt, z_le, z_eq, z_in, z_cl]; omega)
    have ci : (nI i).toNatClampNeg = i := nI_clamp (by omega)
    have vi : vp_in (nI i) 30 := vp_in_nI (by omega) (by decide)
    have eK : K i = nI (evK es i) := (hKP i hi).1
    have sm := vld_sm hw.1 hi
    have e1 : ssM es p q (i + 1) = ssM es p q i + (if evK es i = 1 ∧ (loA es i).1 = p ∧ (upA es i).1 = q then (if plus es i = true then 1 else -1) else 0) := rfl
    have nx : ∀ y : Int32, y = zI (ssM es p q (i + 1)) → MW G MX5_signSum (mz G d 0 0 post) 5 [some (.ref W), some (.int (nI p)), some (.int (nI q)), some (.int y), some (.int (nI (i + 1)))] [] h' (N, 0, 0) := fun y e => ih _ _ ⟨by rw [e], rfl⟩
    refine MW.run1 gd_X5_signSum [5] 46 ?_
    by_cases k1 : evK es i = 1
    case neg =>
      have f2 : (nI (evK es i) = 1) = False := eq_false (fun z => k1 ((nI_eq (b := 1) (by omega) (by omega)).mp z))
      rw [if_neg (fun z => k1 z.1), Int.add_zero] at e1
      simp (disch := omega) only [↓EVk, ↓w_if_eq, ↓w_an_ite, ↓mEndK, ↓w_retK0, ↓w_fitK, ↓w_dupK, ↓w_dup2K, w_an_back, ↓EVd, ↓ft_X5_signSum, ↓reduceIte, ↓EV_obs, ↓EV_obn, ↓EV_ais, ↓EV_ain, ↓EV_ob h0, ↓EV_ob g0, ↓EV_ai g1, mdF, mRun, List.mem_cons, List.not_mem_nil, or_false, mtab_eq, Nat.reduceEqDiff, Nat.zero_add, hd1, w1, ci, vi, eK, f2, nI_1, mset2, b10, b00, not_true_eq_false, not_false_eq_true, true_implies, false_implies, implies_true, and_true, true_and, Nat.le_refl, true_or, or_true, eq_self, List.length_cons, List.length_nil, Nat.reduceAdd, Nat.reduceLT, Nat.reduceLeDiff]
      exact nx _ (by rw [e1])
    have f2 : (nI (evK es i) = 1) = True := eq_true (by rw [k1]; rfl)
    have ho := (ev_ok hw.1 hi).2.2.2.1 k1
    have h10 := (ev_ok hw.1 hi).2.1
    obtain ⟨t1, -, t3, -, -, t6⟩ := wy_at hw hB (x := i) (y := evP es i) (by omega) (by omega)
    obtain ⟨u1, -, u3, -, -, u6⟩ := wy_at hw hB (x := i) (y := evP es i + 1) (by omega) (by omega)
    have c1 : (nI (arcF es i (evP es i))).toNatClampNeg = arcF es i (evP es i) := nI_clamp (by omega)
    have v1 : vp_in (nI (arcF es i (evP es i))) 30 := vp_in_nI t1 (by decide)
    have c2 : (nI (arcF es i (evP es i + 1))).toNatClampNeg = arcF es i (evP es i + 1) := nI_clamp (by omega)
    have v2 : vp_in (nI (arcF es i (evP es i + 1))) 30 := vp_in_nI u1 (by decide)
    have q1 : (nI (tM es (arcF es i (evP es i))).1 = nI p) = ((loA es i).1 = p) := propext (nI_eq (by omega) (by omega))
    have q2 : (nI (tM es (arcF es i (evP es i + 1))).1 = nI q) = ((upA es i).1 = q) := propext (nI_eq (by omega) (by omega))
    simp (disch := omega) only [↓EVk, ↓w_if_eq, ↓w_an_ite, ↓mEndK, ↓w_retK0, ↓w_fitK, ↓w_dupK, ↓w_dup2K, w_an_back, ↓EVd, ↓ft_X5_signSum, ↓reduceIte, ↓EV_obs, ↓EV_obn, ↓EV_ais, ↓EV_ain, ↓EV_ob h0, ↓EV_ob g0, ↓EV_ai g1, mdF, mRun, List.mem_cons, List.not_mem_nil, or_false, mtab_eq, Nat.reduceEqDiff, Nat.zero_add, hd1, w1, ci, vi, eK, f2, mset2, b10, b00, not_true_eq_false, not_false_eq_true, true_implies, false_implies, implies_true, and_true, true_and, Nat.le_refl, true_or, or_true, eq_self, List.length_cons, List.length_nil, Nat.reduceAdd, Nat.reduceLT, Nat.reduceLeDiff]
    refine w_lowerArc hw hF hW hi k1 ?_
    by_cases z1 : (loA es i).1 = p
    case neg =>
      rw [if_neg (fun z => z1 z.2.1), Int.add_zero] at e1
      have f3 := q1.trans (eq_false z1)
      simp (disch := omega) only [↓EVk, ↓w_if_eq, ↓w_an_ite, ↓mEndK, ↓w_retK0, ↓w_fitK, ↓w_dupK, ↓w_dup2K, w_an_back, ↓EVd, ↓ft_X5_signSum, ↓reduceIte, ↓EV_obs, ↓EV_obn, ↓EV_ais, ↓EV_ain, ↓EV_ob h0, ↓EV_ai a3, mdF, mRun, List.mem_cons, List.not_mem_nil, or_false, mtab_eq, Nat.reduceEqDiff, Nat.zero_add, hd1, c1, v1, t3, f3, nI_1, mset2, b10, b00, not_true_eq_false, not_false_eq_true, true_implies, false_implies, implies_true, and_true, true_and, Nat.le_refl, true_or, or_true, eq_self, List.length_cons, List.length_nil, Nat.reduceAdd, Nat.reduceLT, Nat.reduceLeDiff]
      exact nx _ (by rw [e1])
    have f3 := q1.trans (eq_true z1)
    simp (disch := omega) only [↓EVk, ↓w_if_eq, ↓w_an_ite, ↓mEndK, ↓w_retK0, ↓w_fitK, ↓w_dupK, ↓w_dup2K, w_an_back, ↓EVd, ↓ft_X5_signSum, ↓reduceIte, ↓EV_obs, ↓EV_obn, ↓EV_ais, ↓EV_ain, ↓EV_ob h0, ↓EV_ai a3, mdF, mRun, List.mem_cons, List.not_mem_nil, or_false, mtab_eq, Nat.reduceEqDiff, Nat.zero_add, hd1, c1, v1, t3, f3, mset2, b10, b00, not_true_eq_false, not_false_eq_true, true_implies, false_implies, implies_true, and_true, true_and, Nat.le_refl, true_or, or_true, eq_self, List.length_cons, List.length_nil, Nat.reduceAdd, Nat.reduceLT, Nat.reduceLeDiff]
    refine w_upperArc hw hF hW hi k1 ?_
    by_cases z2 : (upA es i).1 = q
    case neg =>
      rw [if_neg (fun z => z2 z.2.2), Int.add_zero] at e1
      have f4 := q2.trans (eq_false z2)
      simp (disch := omega) only [↓EVk, ↓w_if_eq, ↓w_an_ite, ↓mEndK, ↓w_retK0, ↓w_fitK, ↓w_dupK, ↓w_dup2K, w_an_back, ↓EVd, ↓ft_X5_signSum, ↓reduceIte, ↓EV_obs, ↓EV_obn, ↓EV_ais, ↓EV_ain, ↓EV_ob h0, ↓EV_ai a3, mdF, mRun, List.mem_cons, List.not_mem_nil, or_false, mtab_eq, Nat.reduceEqDiff, Nat.zero_add, hd1, c2, v2, u3, f4, nI_1, mset2, b10, b00, not_true_eq_false, not_false_eq_true, true_implies, false_implies, implies_true, and_true, true_and, Nat.le_refl, true_or, or_true, eq_self, List.length_cons, List.length_nil, Nat.reduceAdd, Nat.reduceLT, Nat.reduceLeDiff]
      exact nx _ (by rw [e1])
    have f4 := q2.trans (eq_true z2)
    rw [if_pos ⟨k1, z1, z2⟩] at e1
    simp (disch := omega) only [↓EVk, ↓w_if_eq, ↓w_an_ite, ↓mEndK, ↓w_retK0, ↓w_fitK, ↓w_dupK, ↓w_dup2K, w_an_back, ↓EVd, ↓ft_X5_signSum, ↓reduceIte, ↓EV_obs, ↓EV_obn, ↓EV_ais, ↓EV_ain, ↓EV_ob h0, ↓EV_ai a3, mdF, mRun, List.mem_cons, List.not_mem_nil, or_false, mtab_eq, Nat.reduceEqDiff, Nat.zero_add, hd1, c2, v2, u3, f4, mset2, b10, b00, not_true_eq_false, not_false_eq_true, true_implies, false_implies, implies_true, and_true, true_and, Nat.le_refl, true_or, or_true, eq_self, List.length_cons, List.length_nil, Nat.reduceAdd, Nat.reduceLT, Nat.reduceLeDiff]
    refine w_isPlus (by omega) hw hF hW hi k1 ?_
    cases hpl : plus es i with
    | true =>
      rw [hpl] at e1
      simp only [↓reduceIte] at e1
      simp only [↓reduceIte]
      simp (disch := omega) only [↓EVk, ↓w_if_eq, ↓w_an_ite, ↓mEndK, ↓w_retK0, ↓w_fitK, ↓w_dupK, ↓w_dup2K, w_an_back, ↓EVd, ↓ft_X5_signSum, ↓reduceIte, ↓EV_obs, ↓EV_obn, ↓EV_ais, ↓EV_ain, mdF, mRun, List.mem_cons, List.not_mem_nil, or_false, mtab_eq, Nat.reduceEqDiff, Nat.zero_add, nI_1, mset2, b10, b00, not_true_eq_false, not_false_eq_true, true_implies, false_implies, implies_true, and_true, true_and, Nat.le_refl, true_or, or_true, eq_self, List.length_cons, List.length_nil, Nat.reduceAdd, Nat.reduceLT, Nat.reduceLeDiff]
      exact nx _ (by rw [e1]; exact zI_up _)
    | false =>
      rw [hpl] at e1
      simp only [Bool.false_eq_true, ↓reduceIte] at e1
      simp only [Bool.false_eq_true, ↓reduceIte]
      simp (disch := omega) only [↓EVk, ↓w_if_eq, ↓w_an_ite, ↓mEndK, ↓w_retK0, ↓w_fitK, ↓w_dupK, ↓w_dup2K, w_an_back, ↓EVd, ↓ft_X5_signSum, ↓reduceIte, ↓EV_obs, ↓EV_obn, ↓EV_ais, ↓EV_ain, mdF, mRun, List.mem_cons, List.not_mem_nil, or_false, mtab_eq, Nat.reduceEqDiff, Nat.zero_add, nI_1, mset2, b10, b00, not_true_eq_false, not_false_eq_true, true_implies, false_implies, implies_true, and_true, true_and, Nat.le_refl, true_or, or_true, eq_self, List.length_cons, List.length_nil, Nat.reduceAdd, Nat.reduceLT, Nat.reduceLeDiff]
      exact nx _ (by rw [e1]; exact zI_dn _)
  · rintro L h' ⟨rfl, rfl⟩
    have w1 : (nI es.length ≤ nI es.length) = True := eq_true (nI_le (Nat.le_refl _) (by omega))
    refine MW.run1 gd_X5_signSum [5] 10 ?_
    simp (disch := omega) only [↓EVk, ↓w_if_eq, ↓w_an_ite, ↓mEndK, ↓w_retK0, ↓w_fitK, ↓w_dupK, ↓w_dup2K, w_an_back, ↓EVd, ↓ft_X5_signSum, ↓reduceIte, ↓EV_obs, ↓EV_obn, ↓EV_ais, ↓EV_ain, ↓EV_ob h0, ↓EV_ob g0, mdF, mRun, List.mem_cons, List.not_mem_nil, or_false, mtab_eq, Nat.reduceEqDiff, Nat.zero_add, w1, mset2, b10, b00, not_true_eq_false, not_false_eq_true, true_implies, false_implies, implies_true, and_true, true_and, Nat.le_refl, true_or, or_true, eq_self, List.length_cons, List.length_nil, Nat.reduceAdd, Nat.reduceLT, Nat.reduceLeDiff]
    exact hp
set_option maxRecDepth 10000 in
theorem w_writhe {p : Nat} (hd : 3 ≤ d) (hw : whl es) (hF : FrontR h G F es) (hW : WyR h G W F es) (hp15 : p < 15) (hp : post (some (.int (zI (sgM es p p es.length)))) h) : MC G MX5_writhe d 0 0 [.ref W, .int (nI p)] h N post := by
  have hd1 : 1 ≤ d := by omega
  obtain ⟨R, a, hB⟩ := WyR_B hW
  have h0 := hB.1.1
  rw [ssM_same] at hp
  refine MC.of (L0 := [some (.ref W), some (.int (nI p))]) gd_X5_writhe (Nat.le_of_ble_eq_true rfl) rfl (MW.run gd_X5_writhe [] 8 ?_)
  simp (disch := omega) only [↓EVi, ↓EVc, ↓ft_X5_writhe, ↓reduceIte, ↓EV_obs, ↓EV_obn, ↓EV_ais, ↓EV_ain, ↓EV_ob h0, mdF, mRun, List.mem_cons, List.not_mem_nil, or_false, mtab_eq, Nat.reduceEqDiff, Nat.zero_add, hd1, mset2, b10, b00, not_true_eq_false, not_false_eq_true, true_implies, false_implies, implies_true, and_true, true_and, Nat.le_refl, true_or, or_true, eq_self, List.length_cons, List.length_nil, Nat.reduceAdd, Nat.reduceLT, Nat.reduceLeDiff]
  refine w_signSum (by omega) hw hF hW hp15 hp15 ?_
  simp (disch := omega) only [↓EVi, ↓EVc, ↓ft_X5_writhe, ↓reduceIte, ↓EV_obs, ↓EV_obn, ↓EV_ais, ↓EV_ain, mdF, mRun, List.mem_cons, List.not_mem_nil, or_false, mtab_eq, Nat.reduceEqDiff, Nat.zero_add, mset2, b10, b00, not_true_eq_false, not_false_eq_true, true_implies, false_implies, implies_true, and_true, true_and, Nat.le_refl, true_or, or_true, eq_self, List.length_cons, List.length_nil, Nat.reduceAdd, Nat.reduceLT, Nat.reduceLeDiff]
  exact hp
set_option maxRecDepth 10000 in
theorem w_linking {p q : Nat} (hd : 3 ≤ d) (hw : whl es) (hF : FrontR h G F es) (hW : WyR h G W F es) (hp15 : p < 15) (hq15 : q < 15) (hpq : p ≠ q) (hp : post (some (.int (zI (sgM es p q es.length) / 2))) h) : MC G MX5_linking d 0 0 [.ref W, .int (nI p), .int (nI q)] h N post := by
  have hd1 : 1 ≤ d := by omega
  obtain ⟨R, a, hB⟩ := WyR_B hW
  have h0 := hB.1.1
  rw [ssM_two hpq, ← z_add] at hp
  have n2 : ¬ (2 : Int32) = 0 := by decide
  refine MC.of (L0 := [some (.ref W), some (.int (nI p)), some (.int (nI q))]) gd_X5_linking (Nat.le_of_ble_eq_true rfl) rfl (MW.run gd_X5_linking [] 16 ?_)
  simp (disch := omega) only [↓EVi, ↓EVc, ↓ft_X5_linking, ↓reduceIte, ↓EV_obs, ↓EV_obn, ↓EV_ais, ↓EV_ain, ↓EV_ob h0, mdF, mRun, List.mem_cons, List.not_mem_nil, or_false, mtab_eq, Nat.reduceEqDiff, Nat.zero_add, hd1, mset2, b10, b00, not_true_eq_false, not_false_eq_true, true_implies, false_implies, implies_true, and_true, true_and, Nat.le_refl, true_or, or_true, eq_self, List.length_cons, List.length_nil, Nat.reduceAdd, Nat.reduceLT, Nat.reduceLeDiff]
  refine w_signSum (by omega) hw hF hW hp15 hq15 ?_
  simp (disch := omega) only [↓EVi, ↓EVc, ↓ft_X5_linking, ↓reduceIte, ↓EV_obs, ↓EV_obn, ↓EV_ais, ↓EV_ain, ↓EV_ob h0, mdF, mRun, List.mem_cons, List.not_mem_nil, or_false, mtab_eq, Nat.reduceEqDiff, Nat.zero_add, hd1, mset2, b10, b00, not_true_eq_false, not_false_eq_true, true_implies, false_implies, implies_true, and_true, true_and, Nat.le_refl, true_or, or_true, eq_self, List.length_cons, List.length_nil, Nat.reduceAdd, Nat.reduceLT, Nat.reduceLeDiff]
  refine w_signSum (by omega) hw hF hW hq15 hp15 ?_
  simp (disch := omega) only [↓EVi, ↓EVc, ↓ft_X5_linking, ↓reduceIte, ↓EV_obs, ↓EV_obn, ↓EV_ais, ↓EV_ain, mdF, mRun, List.mem_cons, List.not_mem_nil, or_false, mtab_eq, Nat.reduceEqDiff, Nat.zero_add, n2, mset2, b10, b00, not_true_eq_false, not_false_eq_true, true_implies, false_implies, implies_true, and_true, true_and, Nat.le_refl, true_or, or_true, eq_self, List.length_cons, List.length_nil, Nat.reduceAdd, Nat.reduceLT, Nat.reduceLeDiff]
  exact hp
set_option maxRecDepth 10000 in
theorem w_deaths {p : Nat} (hw : whl es) (hW : WyR h G W F es) (hpn : p < nP es) (hp : post (some (.int (nI (dtM es p es.length)))) h) : MC G MX5_deaths d 0 0 [.ref W, .int (nI p)] h N post := by
  obtain ⟨R, a, hB⟩ := WyR_B hW
  have h0 := hB.1.1
  have hnP := nP_le hw
  have b30 := (vld_bd hw.1).1
  have e := tUD hw hpn
  have hdt := dtM_le (es := es) (p := p) es.length
  obtain ⟨-, u8, u7⟩ := hB.2.2.2 p hpn
  have a7 : h (W + 44) = some (.inl (gC G 0, 15, .inl (a 7))) := hB.1.2.2.2 7 (by decide)
  have a8 : h (W + 45) = some (.inl (gC G 0, 15, .inl (a 8))) := hB.1.2.2.2 8 (by decide)
  have cp : (nI p).toNatClampNeg = p := nI_clamp (by omega)
  have vp : vp_in (nI p) 15 := vp_in_nI (by omega) (by decide)
  have n2 : ¬ (2 : Int32) = 0 := by decide
  have eq : (nI (tD es p) + nI (tU es p)) / 2 = nI (dtM es p es.length) := by
    rw [← nI_half (t := dtM es p es.length) (by omega), ← e]
    congr 1
    simp (disch := omega) only [z_nI, z_lit, z_neg, z_add, z_sub, z_mul, z_lt, z_le, z_eq, z_in, z_cl]
    congr 1
    omega
  refine MC.of (L0 := [some (.ref W), some (.int (nI p))]) gd_X5_deaths (Nat.le_of_ble_eq_true rfl) rfl (MW.run gd_X5_deaths [] 16 ?_)
  simp (disch := omega) only [↓EVi, ↓EVc, ↓ft_X5_deaths, ↓reduceIte, ↓EV_obs, ↓EV_obn, ↓EV_ais, ↓EV_ain, ↓EV_ob h0, ↓EV_ai a7, ↓EV_ai a8, mdF, mRun, List.mem_cons, List.not_mem_nil, or_false, mtab_eq, Nat.reduceEqDiff, Nat.zero_add, cp, vp, u8, u7, n2, eq, mset2, b10, b00, not_true_eq_false, not_false_eq_true, true_implies, false_implies, implies_true, and_true, true_and, Nat.le_refl, true_or, or_true, eq_self, List.length_cons, List.length_nil, Nat.reduceAdd, Nat.reduceLT, Nat.reduceLeDiff]
  exact hp
set_option maxRecDepth 10000 in
theorem w_turn {p : Nat} (hw : whl es) (hW : WyR h G W F es) (hpn : p < nP es) (hp : post (some (.int ((nI (tD es p) - nI (tU es p)) / 2))) h) : MC G MX5_turn d 0 0 [.ref W, .int (nI p)] h N post := by
  obtain ⟨R, a, hB⟩ := WyR_B hW
  have h0 := hB.1.1
  have hnP := nP_le hw
  obtain ⟨-, u8, u7⟩ := hB.2.2.2 p hpn
  have a7 : h (W + 44) = some (.inl (gC G 0, 15, .inl (a 7))) := hB.1.2.2.2 7 (by decide)
  have a8 : h (W + 45) = some (.inl (gC G 0, 15, .inl (a 8))) := hB.1.2.2.2 8 (by decide)
  have cp : (nI p).toNatClampNeg = p := nI_clamp (by omega)
  have vp : vp_in (nI p) 15 := vp_in_nI (by omega) (by decide)
  have n2 : ¬ (2 : Int32) = 0 := by decide
  refine MC.of (L0 := [some (.ref W), some (.int (nI p))]) gd_X5_turn (Nat.le_of_ble_eq_true rfl) rfl (MW.run gd_X5_turn [] 16 ?_)
  simp (disch := omega) only [↓EVi, ↓EVc, ↓ft_X5_turn, ↓reduceIte, ↓EV_obs, ↓EV_obn, ↓EV_ais, ↓EV_ain, ↓EV_ob h0, ↓EV_ai a7, ↓EV_ai a8, mdF, mRun, List.mem_cons, List.not_mem_nil, or_false, mtab_eq, Nat.reduceEqDiff, Nat.zero_add, cp, vp, u8, u7, n2, mset2, b10, b00, not_true_eq_false, not_false_eq_true, true_implies, false_implies, implies_true, and_true, true_and, Nat.le_refl, true_or, or_true, eq_self, List.length_cons, List.length_nil, Nat.reduceAdd, Nat.reduceLT, Nat.reduceLeDiff]
  exact hp
theorem abs_eq {u w t : Nat} (e : u + w = 2 * t) (ht : t ≤ 30) : (2 * (if 0 ≤ (nI w - nI u) / 2 then (nI w - nI u) / 2 else 0 - (nI w - nI u) / 2) : Int32) = (if nI w ≤ nI u then nI u - nI w else nI w - nI u) ∧ (¬ (if nI w ≤ nI u then nI u - nI w else nI w - nI u : Int32) = 0 → 0 < (if nI w ≤ nI u then nI u - nI w else nI w - nI u : Int32)) := by
  have hz : (nI w - nI u) / 2 = zI (((w : Int) - u).tdiv 2) := by
    rw [z_nI, z_nI, z_sub, z_half _ (by omega)]
  rw [hz]
  rcases Nat.le_total u w with c | c
  · rw [Int.tdiv_eq_ediv_of_nonneg (by omega)]
    obtain ⟨k, hk⟩ : ∃ k : Nat, w = u + 2 * k := ⟨(w - u) / 2, by omega⟩
    rw [show ((w : Int) - u) / 2 = k by omega, if_pos (show (0 : Int32) ≤ zI k by simp (disch := omega) only [z_nI, z_lit, z_neg, z_add, z_sub, z_mul, z_lt, z_le, z_eq, z_in, z_cl]; omega)]
    by_cases c2 : w = u
    · rw [if_pos (show nI w ≤ nI u by rw [c2]; exact Int32.le_refl _)]
      have k0 : k = 0 := by omega
      subst k0
      rw [c2]
      refine ⟨by simp (disch := omega) only [z_nI, z_lit, z_neg, z_add, z_sub, z_mul, z_lt, z_le, z_eq, z_in, z_cl]; congr 1; omega, fun n => absurd (by simp (disch := omega) only [z_nI, z_lit, z_neg, z_add, z_sub, z_mul, z_lt, z_le, z_eq, z_in, z_cl]; omega) n⟩
    · rw [if_neg (show ¬ nI w ≤ nI u by simp (disch := omega) only [z_nI, z_lit, z_neg, z_add, z_sub, z_mul, z_lt, z_le, z_eq, z_in, z_cl]; omega)]
      refine ⟨by simp (disch := omega) only [z_nI, z_lit, z_neg, z_add, z_sub, z_mul, z_lt, z_le, z_eq, z_in, z_cl]; congr 1; omega, fun _ => by simp (disch := omega) only [z_nI, z_lit, z_neg, z_add, z_sub, z_mul, z_lt, z_le, z_eq, z_in, z_cl]; omega⟩
  · obtain ⟨k, hk⟩ : ∃ k : Nat, u = w + 2 * k := ⟨(u - w) / 2, by omega⟩
    rw [show ((w : Int) - u) = -(2 * k) by omega, Int.neg_tdiv, Int.tdiv_eq_ediv_of_nonneg (by omega), show (2 * (k : Int)) / 2 = k by omega, if_pos (show nI w ≤ nI u by simp (disch := omega) only [z_nI, z_lit, z_neg, z_add, z_sub, z_mul, z_lt, z_le, z_eq, z_in, z_cl]; omega)]
    by_cases c2 : k = 0
    · subst c2
      rw [if_pos (by decide)]
      refine ⟨by simp (disch := omega) only [z_nI, z_lit, z_neg, z_add, z_sub, z_mul, z_lt, z_le, z_eq, z_in, z_cl]; congr 1; omega, fun n => absurd (by simp (disch := omega) only [z_nI, z_lit, z_neg, z_add, z_sub, z_mul, z_lt, z_le, z_eq, z_in, z_cl]; omega) n⟩
    · rw [if_neg (show ¬ (0 : Int32) ≤ zI (-(k : Int)) by simp (disch := omega) only [z_nI, z_lit, z_neg, z_add, z_sub, z_mul, z_lt, z_le, z_eq, z_in, z_cl]; omega)]
      refine ⟨by simp (disch := omega) only [z_nI, z_lit, z_neg, z_add, z_sub, z_mul, z_lt, z_le, z_eq, z_in, z_cl]; congr 1; omega, fun _ => by simp (disch := omega) only [z_nI, z_lit, z_neg, z_add, z_sub, z_mul, z_lt, z_le, z_eq, z_in, z_cl]; omega⟩
theorem degM_eq {es : List Ev} (hw : whl es) : (2 * (if 0 ≤ (nI (tD es 0) - nI (tU es 0)) / 2 then (nI (tD es 0) - nI (tU es 0)) / 2 else 0 - (nI (tD es 0) - nI (tU es 0)) / 2) : Int32) = degM es ∧ (¬ degM es = 0 → 0 < degM es) := by
  have e := tUD hw (nP_pos hw)
  have b30 := (vld_bd hw.1).1
  have hdt := dtM_le (es := es) (p := 0) es.length
  exact abs_eq e (by omega)
set_option maxRecDepth 10000 in
theorem w_levelStep {i : Nat} (hd : 1 ≤ d) (hw : whl es) (hF : FrontR h G F es) (hW : WyR h G W F es) (hi : i < es.length) (hK : evK es i = 1) (hp : post (some (.int (degV es i))) h) : MC G MX5_levelStep d 0 0 [.ref W, .int (nI i)] h N post := by
  obtain ⟨R, a, hB⟩ := WyR_B hW
  have b30 := (vld_bd hw.1).1
  have ho := (ev_ok hw.1 hi).2.2.2.1 hK
  have h10 := (ev_ok hw.1 hi).2.1
  obtain ⟨t1, -, -, -, t5, -⟩ := wy_at hw hB (x := i) (y := evP es i) (by omega) (by omega)
  obtain ⟨u1, -, -, -, u5, -⟩ := wy_at hw hB (x := i) (y := evP es i + 1) (by omega) (by omega)
  have h0 := hB.1.1
  have a5 : h (W + 42) = some (.inl (gC G 0, 30, .inl (a 5))) := hB.1.2.2.2 5 (by decide)
  have c1 : (nI (arcF es i (evP es i))).toNatClampNeg = arcF es i (evP es i) := nI_clamp (by omega)
  have v1 : vp_in (nI (arcF es i (evP es i))) 30 := vp_in_nI t1 (by decide)
  have c2 : (nI (arcF es i (evP es i + 1))).toNatClampNeg = arcF es i (evP es i + 1) := nI_clamp (by omega)
  have v2 : vp_in (nI (arcF es i (evP es i + 1))) 30 := vp_in_nI u1 (by decide)
  have eW : zI (tM es (arcF es i (evP es i + 1))).2.2 - zI (tM es (arcF es i (evP es i))).2.2 = degW es i := rfl
  obtain ⟨m1, m2⟩ := degM_eq hw
  refine MC.of (L0 := [some (.ref W), some (.int (nI i)), none, none]) gd_X5_levelStep (Nat.le_of_ble_eq_true rfl) rfl (MW.run gd_X5_levelStep [] 36 ?_)
  simp (disch := omega) only [↓EVk, ↓w_if_eq, ↓w_an_ite, ↓mEndK, ↓w_retK0, ↓w_fitK, ↓w_dupK, ↓w_dup2K, w_an_back, ↓EVd, ↓ft_X5_levelStep, ↓reduceIte, ↓EV_obs, ↓EV_obn, ↓EV_ais, ↓EV_ain, ↓EV_ob h0, mdF, mRun, List.mem_cons, List.not_mem_nil, or_false, mtab_eq, Nat.reduceEqDiff, Nat.zero_add, hd, mset2, b10, b00, not_true_eq_false, not_false_eq_true, true_implies, false_implies, implies_true, and_true, true_and, Nat.le_refl, true_or, or_true, eq_self, List.length_cons, List.length_nil, Nat.reduceAdd, Nat.reduceLT, Nat.reduceLeDiff]
  refine w_upperArc hw hF hW hi hK ?_
  simp (disch := omega) only [↓EVk, ↓w_if_eq, ↓w_an_ite, ↓mEndK, ↓w_retK0, ↓w_fitK, ↓w_dupK, ↓w_dup2K, w_an_back, ↓EVd, ↓ft_X5_levelStep, ↓reduceIte, ↓EV_obs, ↓EV_obn, ↓EV_ais, ↓EV_ain, ↓EV_ob h0, ↓EV_ai a5, mdF, mRun, List.mem_cons, List.not_mem_nil, or_false, mtab_eq, Nat.reduceEqDiff, Nat.zero_add, hd, c2, v2, u5, mset2, b10, b00, not_true_eq_false, not_false_eq_true, true_implies, false_implies, implies_true, and_true, true_and, Nat.le_refl, true_or, or_true, eq_self, List.length_cons, List.length_nil, Nat.reduceAdd, Nat.reduceLT, Nat.reduceLeDiff]
  refine w_lowerArc hw hF hW hi hK ?_
  simp (disch := omega) only [↓EVk, ↓w_if_eq, ↓w_an_ite, ↓mEndK, ↓w_retK0, ↓w_fitK, ↓w_dupK, ↓w_dup2K, w_an_back, ↓EVd, ↓ft_X5_levelStep, ↓reduceIte, ↓EV_obs, ↓EV_obn, ↓EV_ais, ↓EV_ain, ↓EV_ob h0, ↓EV_ai a5, mdF, mRun, List.mem_cons, List.not_mem_nil, or_false, mtab_eq, Nat.reduceEqDiff, Nat.zero_add, hd, c1, v1, t5, eW, mset2, b10, b00, not_true_eq_false, not_false_eq_true, true_implies, false_implies, implies_true, and_true, true_and, Nat.le_refl, true_or, or_true, eq_self, List.length_cons, List.length_nil, Nat.reduceAdd, Nat.reduceLT, Nat.reduceLeDiff]
  refine w_turn (p := 0) hw hW (nP_pos hw) ?_
  unfold degV at hp
  by_cases c : degM es = 0
  · rw [if_pos c] at hp
    have f : (degM es = 0) = True := eq_true c
    simp (disch := omega) only [↓EVk, ↓w_if_eq, ↓w_an_ite, ↓mEndK, ↓w_retK0, ↓w_fitK, ↓w_dupK, ↓w_dup2K, w_an_back, ↓EVd, ↓ft_X5_levelStep, ↓reduceIte, ↓EV_obs, ↓EV_obn, ↓EV_ais, ↓EV_ain, ↓EV_ob h0, mdF, mRun, List.mem_cons, List.not_mem_nil, or_false, mtab_eq, Nat.reduceEqDiff, Nat.zero_add, hd, m1, f, mset2, b10, b00, not_true_eq_false, not_false_eq_true, true_implies, false_implies, implies_true, and_true, true_and, Nat.le_refl, true_or, or_true, eq_self, List.length_cons, List.length_nil, Nat.reduceAdd, Nat.reduceLT, Nat.reduceLeDiff]
    exact hp
  · rw [if_neg c] at hp
    have f : (degM es = 0) = False := eq_false c
    simp (disch := omega) only [↓EVk, ↓w_if_eq, ↓w_an_ite, ↓mEndK, ↓w_retK0, ↓w_fitK, ↓w_dupK, ↓w_dup2K, w_an_back, ↓EVd, ↓ft_X5_levelStep, ↓reduceIte, ↓EV_obs, ↓EV_obn, ↓EV_ais, ↓EV_ain, ↓EV_ob h0, mdF, mRun, List.mem_cons, List.not_mem_nil, or_false, mtab_eq, Nat.reduceEqDiff, Nat.zero_add, hd, m1, f, mset2, b10, b00, not_true_eq_false, not_false_eq_true, true_implies, false_implies, implies_true, and_true, true_and, Nat.le_refl, true_or, or_true, eq_self, List.length_cons, List.length_nil, Nat.reduceAdd, Nat.reduceLT, Nat.reduceLeDiff]
    refine j_floorMod c ?_
    rw [fmI_eq (m2 c)]
    simp (disch := omega) only [↓EVk, ↓w_if_eq, ↓w_an_ite, ↓mEndK, ↓w_retK0, ↓w_fitK, ↓w_dupK, ↓w_dup2K, w_an_back, ↓EVd, ↓ft_X5_levelStep, ↓reduceIte, ↓EV_obs, ↓EV_obn, ↓EV_ais, ↓EV_ain, mdF, mRun, List.mem_cons, List.not_mem_nil, or_false, mtab_eq, Nat.reduceEqDiff, Nat.zero_add, mset2, b10, b00, not_true_eq_false, not_false_eq_true, true_implies, false_implies, implies_true, and_true, true_and, Nat.le_refl, true_or, or_true, eq_self, List.length_cons, List.length_nil, Nat.reduceAdd, Nat.reduceLT, Nat.reduceLeDiff]
    exact hp
end WYM
