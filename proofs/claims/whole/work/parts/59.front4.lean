/-! Front: appendPatch, mostStrands, firstUnlike -/
def PatchC (h : mH) (G : mG) (P : Nat) (K Q : Nat → Int32) (n g : Int32) : Prop := h P = some (.inr (1, [.ref (P + 1), .ref (P + 2), .int n, .int g])) ∧ h (P + 1) = some (.inl (gC G 0, 3, .inl K)) ∧ h (P + 2) = some (.inl (gC G 0, 3, .inl Q))
/-- the patch takes g events away and puts xs -/
def PatchR (h : mH) (G : mG) (P g : Nat) (xs : List Ev) : Prop := xs.length ≤ 3 ∧ (∀ i, i < xs.length → evK xs i ≤ 2 ∧ evP xs i < 100) ∧ ∃ K Q, PatchC h G P K Q (nI xs.length) (nI g) ∧ ∀ i, i < xs.length → K i = nI (evK xs i) ∧ Q i = nI (evP xs i)
theorem PatchR_keep {h h' : mH} {G : mG} {P g a b : Nat} {xs : List Ev} (hP : PatchR h G P g xs) (hk : mKeep h h' a b) (hd : P + 2 < a ∨ b < P) : PatchR h' G P g xs := by
  obtain ⟨h1, h2, K, Q, ⟨g0, g1, g2⟩, h3⟩ := hP
  exact ⟨h1, h2, K, Q, ⟨by rw [hk P (by omega)]; exact g0, by rw [hk (P + 1) (by omega)]; exact g1, by rw [hk (P + 2) (by omega)]; exact g2⟩, h3⟩
section FRS
variable {G : mG} {d N : Nat} {post : Option Value → mH → Prop}
set_option maxRecDepth 10000 in
theorem c_appendPatch {F P g : Nat} {es xs : List Ev} {h : mH} (hd : 3 ≤ d) (hFP : P + 2 < F ∨ F + 3 < P) (hF : FrontR h G F es) (hP : PatchR h G P g xs)
    (hp1 : allOk es xs → ∀ h', FrontR h' G F (es ++ xs) → mKeep h h' F (F + 3) → post (some (.int 1)) h')
    (hp0 : ¬ allOk es xs → ∀ h' es', FrontR h' G F es' → mKeep h h' F (F + 3) → post (some (.int 0)) h') : MC G MX0_appendPatch d 0 0 [.ref F, .ref P] h N post := by
  have hl := hP.1
  have hd1 : 1 ≤ d := by omega
  refine MC.of (L0 := [some (.ref F), some (.ref P), none]) gd_X0_appendPatch (Nat.le_of_ble_eq_true rfl) rfl (MW.run gd_X0_appendPatch [2] 10 ?_)
  simp (disch := omega) only [↓EVi, ↓EVc, ↓ft_X0_appendPatch, ↓reduceIte, ↓EV_obs, ↓EV_obn, ↓EV_ais, ↓EV_ain, mdF, mRun, List.mem_cons, List.not_mem_nil, or_false, mtab_eq, Nat.reduceEqDiff, Nat.zero_add, mset2, b10, b00, not_true_eq_false, not_false_eq_true, true_implies, false_implies, implies_true, and_true, true_and, Nat.le_refl, true_or, or_true, eq_self, List.length_cons, List.length_nil, Nat.reduceAdd, Nat.reduceLT, Nat.reduceLeDiff]
  refine MW.upto xs.length (fun i L h' => ∃ es', L = [some (.ref F), some (.ref P), some (.int (nI i))] ∧ FrontR h' G F es' ∧ mKeep h h' F (F + 3) ∧ es' = es ++ xs.take i ∧ (allOk es xs ↔ allOk es' (xs.drop i))) ?_ ?_ 0 _ _ (Nat.zero_le _) ⟨es, rfl, hF, mKeep_rfl, by simp, by simp⟩
  · rintro i L h' hi ⟨es', rfl, hF', hk, e1, e2⟩ ih
    have hP' := PatchR_keep hP hk (by omega)
    obtain ⟨-, hsm, K, Q, ⟨g0, g1, g2⟩, hKQ⟩ := hP'
    have hF0 := hF'
    obtain ⟨hv, Kf, Pf, Af, ⟨f0, -⟩, -⟩ := hF0
    obtain ⟨q1, q2⟩ := hKQ i hi
    obtain ⟨s1, s2⟩ := hsm i hi
    have ci : (nI i).toNatClampNeg = i := nI_clamp (by omega)
    have vi : vp_in (nI i) 3 := vp_in_nI (by omega) (by decide)
    have w1 : (nI xs.length ≤ nI i) = False := eq_false (by simp (disch := omega) only [z_nI, z_lit, z_neg, z_add, z_sub, z_mul, z_lt, z_le, z_eq, z_in, z_cl]; omega)
    have edr : xs.drop i = (evK xs i, evP xs i) :: xs.drop (i + 1) := by
      rw [List.drop_eq_getElem_cons hi]
      unfold evK evP
      rw [List.getD_eq_getElem?_getD, List.getElem?_eq_getElem hi]
      rfl
    have etk : xs.take (i + 1) = xs.take i ++ [(evK xs i, evP xs i)] := take_snoc hi
    rw [edr] at e2
    refine MW.run1 gd_X0_appendPatch [2] 24 ?_
    simp (disch := omega) only [↓EVk, ↓w_if_eq, ↓w_an_ite, ↓mEndK, ↓w_retK0, ↓w_fitK, ↓w_dupK, ↓w_dup2K, w_an_back, ↓EVd, ↓ft_X0_appendPatch, ↓reduceIte, ↓EV_obs, ↓EV_obn, ↓EV_ais, ↓EV_ain, ↓EV_ob f0, ↓EV_ob g0, ↓EV_ai g1, ↓EV_ai g2, mdF, mRun, List.mem_cons, List.not_mem_nil, or_false, mtab_eq, Nat.reduceEqDiff, Nat.zero_add, ci, vi, w1, q1, q2, hd1, mset2, b10, b00, not_true_eq_false, not_false_eq_true, true_implies, false_implies, implies_true, and_true, true_and, Nat.le_refl, true_or, or_true, eq_self, List.length_cons, List.length_nil, Nat.reduceAdd, Nat.reduceLT, Nat.reduceLeDiff]
    refine c_append hF' (by omega) (fun no => ?_) (fun k' p' e3 e4 ok h2 hF2 hk2 => ?_)
    · simp (disch := omega) only [↓EVk, ↓w_if_eq, ↓w_an_ite, ↓mEndK, ↓w_retK0, ↓w_fitK, ↓w_dupK, ↓w_dup2K, w_an_back, ↓EVd, ↓ft_X0_appendPatch, ↓reduceIte, ↓EV_obs, ↓EV_obn, ↓EV_ais, ↓EV_ain, mdF, mRun, List.mem_cons, List.not_mem_nil, or_false, mtab_eq, Nat.reduceEqDiff, Nat.zero_add, mset2, b10, b00, not_true_eq_false, not_false_eq_true, true_implies, false_implies, implies_true, and_true, true_and, Nat.le_refl, true_or, or_true, eq_self, List.length_cons, List.length_nil, Nat.reduceAdd, Nat.reduceLT, Nat.reduceLeDiff]
      exact hp0 (fun z => no ⟨_, _, rfl, rfl, (e2.mp z).1⟩) h' es' hF' hk
    · obtain ⟨r1, r2⟩ := okEv_unique e3 e4 rfl rfl ok (by omega) (by omega) (vld_bd hv).2.1
      subst r1
      subst r2
      simp (disch := omega) only [↓EVk, ↓w_if_eq, ↓w_an_ite, ↓mEndK, ↓w_retK0, ↓w_fitK, ↓w_dupK, ↓w_dup2K, w_an_back, ↓EVd, ↓ft_X0_appendPatch, ↓reduceIte, ↓EV_obs, ↓EV_obn, ↓EV_ais, ↓EV_ain, mdF, mRun, List.mem_cons, List.not_mem_nil, or_false, mtab_eq, Nat.reduceEqDiff, Nat.zero_add, mset2, b10, b00, not_true_eq_false, not_false_eq_true, true_implies, false_implies, implies_true, and_true, true_and, Nat.le_refl, true_or, or_true, eq_self, List.length_cons, List.length_nil, Nat.reduceAdd, Nat.reduceLT, Nat.reduceLeDiff]
      rw [nI_1]
      refine ih _ _ ⟨_, rfl, hF2, mKeep_trans hk hk2, by rw [e1, etk, List.append_assoc], e2.trans ⟨fun z => z.2, fun z => ⟨ok, z⟩⟩⟩
  · rintro L h' ⟨es', rfl, hF', hk, e1, e2⟩
    have hP' := PatchR_keep hP hk (by omega)
    obtain ⟨-, hsm, K, Q, ⟨g0, g1, g2⟩, hKQ⟩ := hP'
    have w1 : (nI xs.length ≤ nI xs.length) = True := eq_true (nI_le (Nat.le_refl _) (by omega))
    rw [List.take_length] at e1
    rw [List.drop_length] at e2
    subst e1
    refine MW.run1 gd_X0_appendPatch [2] 8 ?_
    simp (disch := omega) only [↓EVk, ↓w_if_eq, ↓w_an_ite, ↓mEndK, ↓w_retK0, ↓w_fitK, ↓w_dupK, ↓w_dup2K, w_an_back, ↓EVd, ↓ft_X0_appendPatch, ↓reduceIte, ↓EV_obs, ↓EV_obn, ↓EV_ais, ↓EV_ain, ↓EV_ob g0, mdF, mRun, List.mem_cons, List.not_mem_nil, or_false, mtab_eq, Nat.reduceEqDiff, Nat.zero_add, w1, mset2, b10, b00, not_true_eq_false, not_false_eq_true, true_implies, false_implies, implies_true, and_true, true_and, Nat.le_refl, true_or, or_true, eq_self, List.length_cons, List.length_nil, Nat.reduceAdd, Nat.reduceLT, Nat.reduceLeDiff]
    exact hp1 (e2.mpr trivial) h' hF' hk
set_option maxRecDepth 10000 in
theorem c_mostStrands {F : Nat} {es : List Ev} {h : mH} (hd : 1 ≤ d) (hF : FrontR h G F es) (hp : post (some (.int (nI (mstC es es.length)))) h) : MC G MX0_mostStrands d 0 0 [.ref F] h N post := by
  obtain ⟨hv, K, P, A, ⟨g0, g1, g2, g3⟩, hKP, hA⟩ := hF
  have b := vld_bd hv
  refine MC.of (L0 := [some (.ref F), none, none]) gd_X0_mostStrands (Nat.le_of_ble_eq_true rfl) rfl (MW.run gd_X0_mostStrands [4] 10 ?_)
  simp (disch := omega) only [↓EVi, ↓EVc, ↓ft_X0_mostStrands, ↓reduceIte, ↓EV_obs, ↓EV_obn, ↓EV_ais, ↓EV_ain, mdF, mRun, List.mem_cons, List.not_mem_nil, or_false, mtab_eq, Nat.reduceEqDiff, Nat.zero_add, mset2, b10, b00, not_true_eq_false, not_false_eq_true, true_implies, false_implies, implies_true, and_true, true_and, Nat.le_refl, true_or, or_true, eq_self, List.length_cons, List.length_nil, Nat.reduceAdd, Nat.reduceLT, Nat.reduceLeDiff]
  refine MW.upto es.length (fun i L h' => L = [some (.ref F), some (.int (nI (mstC es i))), some (.int (nI i))] ∧ h' = h ∧ mstC es i ≤ 10) ?_ ?_ 0 _ _ (Nat.zero_le _) ⟨rfl, rfl, Nat.zero_le _⟩
  · rintro i L h' hi ⟨rfl, rfl, m10⟩ ih
    have ci : (nI i).toNatClampNeg = i := nI_clamp (by omega)
    have vi : vp_in (nI i) 31 := vp_in_nI (by omega) (by decide)
    have w1 : (nI es.length ≤ nI i) = False := eq_false (by simp (disch := omega) only [z_nI, z_lit, z_neg, z_add, z_sub, z_mul, z_lt, z_le, z_eq, z_in, z_cl]; omega)
    have eA : A i = nI (aN es i) := hA i (by omega)
    have hA10 := (vld_le hv i (by omega)).2.1
    have em : mstC es (i + 1) = if mstC es i < aN es i then aN es i else mstC es i := rfl
    have a10 : aN es i ≤ 10 := hA10
    refine MW.run1 gd_X0_mostStrands [4] 20 ?_
    simp (disch := omega) only [↓EVk, ↓w_if_eq, ↓w_an_ite, ↓mEndK, ↓w_retK0, ↓w_fitK, ↓w_dupK, ↓w_dup2K, w_an_back, ↓EVd, ↓ft_X0_mostStrands, ↓reduceIte, ↓EV_obs, ↓EV_obn, ↓EV_ais, ↓EV_ain, ↓EV_ob g0, ↓EV_ai g3, mdF, mRun, List.mem_cons, List.not_mem_nil, or_false, mtab_eq, Nat.reduceEqDiff, Nat.zero_add, ci, vi, w1, eA, hd, mset2, b10, b00, not_true_eq_false, not_false_eq_true, true_implies, false_implies, implies_true, and_true, true_and, Nat.le_refl, true_or, or_true, eq_self, List.length_cons, List.length_nil, Nat.reduceAdd, Nat.reduceLT, Nat.reduceLeDiff]
    have w2 : (nI (mstC es i) < nI (aN es i)) ↔ mstC es i < aN es i := nI_ltI (by omega) (by omega)
    have nx : ∀ X : Int32, X = nI (mstC es (i + 1)) → MW G MX0_mostStrands (mz G d 0 0 post) 4 [some (.ref F), some (.int X), some (.int (nI (i + 1)))] [] h' (N, 0, 0) := by
      rintro X rfl
      exact ih _ _ ⟨rfl, rfl, by rw [em]; split <;> omega⟩
    rw [nI_1]
    refine nx _ ?_
    rw [em]
    by_cases c : mstC es i < aN es i
    · rw [if_pos (w2.mpr c), if_pos c]
    · rw [if_neg (fun z => c (w2.mp z)), if_neg c]
  · rintro L h' ⟨rfl, rfl, -⟩
    have w1 : (nI es.length ≤ nI es.length) = True := eq_true (nI_le (Nat.le_refl _) (by omega))
    refine MW.run1 gd_X0_mostStrands [4] 8 ?_
    simp (disch := omega) only [↓EVk, ↓w_if_eq, ↓w_an_ite, ↓mEndK, ↓w_retK0, ↓w_fitK, ↓w_dupK, ↓w_dup2K, w_an_back, ↓EVd, ↓ft_X0_mostStrands, ↓reduceIte, ↓EV_obs, ↓EV_obn, ↓EV_ais, ↓EV_ain, ↓EV_ob g0, mdF, mRun, List.mem_cons, List.not_mem_nil, or_false, mtab_eq, Nat.reduceEqDiff, Nat.zero_add, w1, mset2, b10, b00, not_true_eq_false, not_false_eq_true, true_implies, false_implies, implies_true, and_true, true_and, Nat.le_refl, true_or, or_true, eq_self, List.length_cons, List.length_nil, Nat.reduceAdd, Nat.reduceLT, Nat.reduceLeDiff]
    exact hp
set_option maxRecDepth 10000 in
theorem c_firstUnlike {F F2 : Nat} {es gs : List Ev} {h : mH} (hd : 1 ≤ d) (hF : FrontR h G F es) (hF2 : FrontR h G F2 gs) (hp : post (some (.int (unl es gs))) h) : MC G MX0_firstUnlike d 0 0 [.ref F, .ref F2] h N post := by
  obtain ⟨hv, K, P, A, ⟨g0, g1, g2, g3⟩, hKP, hA⟩ := hF
  obtain ⟨hv2, K2, P2, A2, ⟨k0, k1, k2, k3⟩, hKP2, hA2⟩ := hF2
  have b := vld_bd hv
  have b2 := vld_bd hv2
  refine MC.of (L0 := [some (.ref F), some (.ref F2), none, none]) gd_X0_firstUnlike (Nat.le_of_ble_eq_true rfl) rfl (MW.run gd_X0_firstUnlike [14] 16 ?_)
  simp (disch := omega) only [↓EVi, ↓EVc, ↓ft_X0_firstUnlike, ↓reduceIte, ↓EV_obs, ↓EV_obn, ↓EV_ais, ↓EV_ain, ↓EV_ob g0, ↓EV_ob k0, mdF, mRun, List.mem_cons, List.not_mem_nil, or_false, mtab_eq, Nat.reduceEqDiff, Nat.zero_add, hd, mset2, b10, b00, not_true_eq_false, not_false_eq_true, true_implies, false_implies, implies_true, and_true, true_and, Nat.le_refl, true_or, or_true, eq_self, List.length_cons, List.length_nil, Nat.reduceAdd, Nat.reduceLT, Nat.reduceLeDiff]
  have em : (if nI gs.length < nI es.length then nI gs.length else nI es.length) = nI (min es.length gs.length) := by
    by_cases c : gs.length < es.length
    · rw [if_pos ((nI_ltI (by omega) (by omega)).mpr c)]
      congr 1
      omega
    · rw [if_neg (fun z => c ((nI_ltI (by omega) (by omega)).mp z))]
      congr 1
      omega
  rw [em]
  obtain ⟨m, hm⟩ : ∃ m, m = min es.length gs.length := ⟨_, rfl⟩
  rw [← hm]
  refine MW.upto m (fun i L h' => L = [some (.ref F), some (.ref F2), some (.int (nI m)), some (.int (nI i))] ∧ h' = h ∧ ∀ j, j < i → es[j]? = gs[j]?) ?_ ?_ 0 _ _ (Nat.zero_le _) ⟨rfl, rfl, fun j hj => absurd hj (Nat.not_lt_zero j)⟩
  · rintro i L h' hi ⟨rfl, rfl, hj⟩ ih
    have ci : (nI i).toNatClampNeg = i := nI_clamp (by omega)
    have vi : vp_in (nI i) 30 := vp_in_nI (by omega) (by decide)
    have w1 : (nI m ≤ nI i) = False := eq_false (by simp (disch := omega) only [z_nI, z_lit, z_neg, z_add, z_sub, z_mul, z_lt, z_le, z_eq, z_in, z_cl]; omega)
    obtain ⟨q1, q2⟩ := hKP i (by omega)
    obtain ⟨r1, r2⟩ := hKP2 i (by omega)
    have s1 := vld_sm hv (i := i) (by omega)
    have s2 := vld_sm hv2 (i := i) (by omega)
    have kk := kp_iff (i := i) hv hv2
    have ek : kA es i = K i ∧ pA es i = P i := by
      unfold kA pA
      rw [if_pos (by omega), if_pos (by omega), q1, q2]
      exact ⟨rfl, rfl⟩
    have ek2 : kA gs i = K2 i ∧ pA gs i = P2 i := by
      unfold kA pA
      rw [if_pos (by omega), if_pos (by omega), r1, r2]
      exact ⟨rfl, rfl⟩
    rw [ek.1, ek.2, ek2.1, ek2.2] at kk
    have stop : es[i]? ≠ gs[i]? → post (some (.int (nI i))) h' := by
      intro z
      rw [unl_at (by omega) z hj] at hp
      exact hp
    refine MW.run1 gd_X0_firstUnlike [14] 30 ?_
    simp (disch := omega) only [↓EVi, ↓EVc, ↓ft_X0_firstUnlike, ↓reduceIte, ↓EV_obs, ↓EV_obn, ↓EV_ais, ↓EV_ain, ↓EV_ob g0, ↓EV_ob k0, ↓EV_ai g1, ↓EV_ai g2, ↓EV_ai k1, ↓EV_ai k2, mdF, mRun, List.mem_cons, List.not_mem_nil, or_false, mtab_eq, Nat.reduceEqDiff, Nat.zero_add, ci, vi, w1, mset2, b10, b00, not_true_eq_false, not_false_eq_true, true_implies, false_implies, implies_true, and_true, true_and, Nat.le_refl, true_or, or_true, eq_self, List.length_cons, List.length_nil, Nat.reduceAdd, Nat.reduceLT, Nat.reduceLeDiff]
    rw [nI_1]
    refine ⟨fun z => stop (fun e => z (kk.mpr e).1), fun z => ⟨fun z2 => ih _ _ ⟨rfl, rfl, fun j hj2 => ?_⟩, fun z2 => stop (fun e => z2 (kk.mpr e).2)⟩⟩
    by_cases e : j = i
    · subst e
      exact kk.mp ⟨Classical.not_not.mp z, z2⟩
    · exact hj j (by omega)
  · rintro L h' ⟨rfl, rfl, hj⟩
    have w1 : (nI m ≤ nI m) = True := eq_true (nI_le (Nat.le_refl _) (by omega))
    refine MW.run1 gd_X0_firstUnlike [14] 14 ?_
    simp (disch := omega) only [↓EVi, ↓EVc, ↓ft_X0_firstUnlike, ↓reduceIte, ↓EV_obs, ↓EV_obn, ↓EV_ais, ↓EV_ain, ↓EV_ob g0, ↓EV_ob k0, mdF, mRun, List.mem_cons, List.not_mem_nil, or_false, mtab_eq, Nat.reduceEqDiff, Nat.zero_add, w1, mset2, b10, b00, not_true_eq_false, not_false_eq_true, true_implies, false_implies, implies_true, and_true, true_and, Nat.le_refl, true_or, or_true, eq_self, List.length_cons, List.length_nil, Nat.reduceAdd, Nat.reduceLT, Nat.reduceLeDiff]
    have e2 : (nI es.length = nI gs.length) ↔ es.length = gs.length := nI_eq (by omega) (by omega)
    refine ⟨fun z => ?_, fun z => ?_⟩
    · have z' : es.length ≠ gs.length := fun y => z (e2.mpr y)
      rw [unl_at (i := m) (by omega) ?_ hj] at hp
      · exact hp
      · by_cases c : es.length < gs.length
        · rw [List.getElem?_eq_none (by omega), List.getElem?_eq_getElem (by omega)]
          exact fun y => by cases y
        · rw [List.getElem?_eq_getElem (by omega), List.getElem?_eq_none (by omega)]
          exact fun y => by cases y
    · have z' := e2.mp (Classical.not_not.mp z)
      rw [unl_no (fun j hj2 => hj j (by omega))] at hp
      exact hp
end FRS
