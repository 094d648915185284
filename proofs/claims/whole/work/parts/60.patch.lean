/-! Patch -/
/-- the patch's cells: g events to go, these words put -/
def PZ (h : mH) (G : mG) (P g : Nat) (xs : List (Int32 × Int32)) : Prop := xs.length ≤ 3 ∧ ∃ K Q, PatchC h G P K Q (nI xs.length) (nI g) ∧ ∀ i, i < xs.length → K i = (xs.getD i (0, 0)).1 ∧ Q i = (xs.getD i (0, 0)).2
theorem PZ_R {h : mH} {G : mG} {P g : Nat} {ys : List (Int32 × Int32)} {xs : List Ev} (hz : PZ h G P g ys) (e : ys = xs.map (fun e => (nI e.1, nI e.2))) (hs : ∀ i, i < xs.length → evK xs i ≤ 2 ∧ evP xs i < 100) : PatchR h G P g xs := by
  subst e
  obtain ⟨h1, K, Q, hC, hKQ⟩ := hz
  rw [List.length_map] at h1 hC hKQ
  refine ⟨h1, hs, K, Q, hC, fun i hi => ?_⟩
  obtain ⟨q1, q2⟩ := hKQ i hi
  rw [q1, q2]
  unfold evK evP
  rw [List.getD_eq_getElem?_getD, List.getElem?_map, List.getD_eq_getElem?_getD, List.getElem?_eq_getElem hi]
  exact ⟨rfl, rfl⟩
def PA (h : mH) (G : mG) (P : Nat) : Prop := ∃ K Q n g, PatchC h G P K Q n g
theorem PZ_A {h : mH} {G : mG} {P g : Nat} {xs : List (Int32 × Int32)} (hz : PZ h G P g xs) : PA h G P := by
  obtain ⟨_, K, Q, hC, _⟩ := hz
  exact ⟨K, Q, _, _, hC⟩
theorem PR_A {h : mH} {G : mG} {P g : Nat} {xs : List Ev} (hz : PatchR h G P g xs) : PA h G P := by
  obtain ⟨_, _, K, Q, hC, _⟩ := hz
  exact ⟨K, Q, _, _, hC⟩
theorem sm3 {a b c d e f : Nat} (h1 : a ≤ 2) (h2 : b < 100) (h3 : c ≤ 2) (h4 : d < 100) (h5 : e ≤ 2) (h6 : f < 100) : ∀ i, i < [(a, b), (c, d), (e, f)].length → evK [(a, b), (c, d), (e, f)] i ≤ 2 ∧ evP [(a, b), (c, d), (e, f)] i < 100 := by
  intro j hj
  rcases (by simp at hj; omega : j = 0 ∨ j = 1 ∨ j = 2) with rfl | rfl | rfl
  · exact ⟨h1, h2⟩
  · exact ⟨h3, h4⟩
  · exact ⟨h5, h6⟩
theorem sm2 {a b c d : Nat} (h1 : a ≤ 2) (h2 : b < 100) (h3 : c ≤ 2) (h4 : d < 100) : ∀ i, i < [(a, b), (c, d)].length → evK [(a, b), (c, d)] i ≤ 2 ∧ evP [(a, b), (c, d)] i < 100 := by
  intro j hj
  rcases (by simp at hj; omega : j = 0 ∨ j = 1) with rfl | rfl
  · exact ⟨h1, h2⟩
  · exact ⟨h3, h4⟩
theorem sm1 {a b : Nat} (h1 : a ≤ 2) (h2 : b < 100) : ∀ i, i < [(a, b)].length → evK [(a, b)] i ≤ 2 ∧ evP [(a, b)] i < 100 := by
  intro j hj
  have : j = 0 := by simp at hj; omega
  subst this
  exact ⟨h1, h2⟩
section PAT
variable {G : mG} {d N P F : Nat} {es : List Ev} {h : mH} {post : Option Value → mH → Prop}
set_option maxRecDepth 10000 in
theorem p_begin {g : Nat} {x : Int32} (hP : PA h G P) (hx : x = nI g) (hp : ∀ h', PZ h' G P g [] → mKeep h h' P (P + 2) → post none h') : MC G MX1_begin d 0 0 [.ref P, .int x] h N post := by
  subst hx
  obtain ⟨K, Q, n, g', g0, g1, g2⟩ := hP
  refine MC.of (L0 := [some (.ref P), some (.int (nI g))]) gd_X1_begin (Nat.le_of_ble_eq_true rfl) rfl (MW.run gd_X1_begin [] 10 ?_)
  simp (disch := omega) only [↓EVi, ↓EVc, ↓ft_X1_begin, ↓reduceIte, ↓EV_obs, ↓EV_obn, ↓EV_ais, ↓EV_ain, ↓EV_ob g0, mdF, mRun, List.mem_cons, List.not_mem_nil, or_false, mtab_eq, Nat.reduceEqDiff, Nat.zero_add, mset2, b10, b00, not_true_eq_false, not_false_eq_true, true_implies, false_implies, implies_true, and_true, true_and, Nat.le_refl, true_or, or_true, eq_self, List.length_cons, List.length_nil, Nat.reduceAdd, Nat.reduceLT, Nat.reduceLeDiff]
  refine hp _ ⟨by decide, K, Q, ⟨mset_same, by rw [mset_ne (by omega)]; exact g1, by rw [mset_ne (by omega)]; exact g2⟩, fun i hi => absurd hi (Nat.not_lt_zero i)⟩ (fun z hz => mset_ne (by omega))
set_option maxRecDepth 10000 in
theorem p_put {g : Nat} {x y : Int32} {xs : List (Int32 × Int32)} (hP : PZ h G P g xs) (hl : xs.length < 3) (hp : ∀ h', PZ h' G P g (xs ++ [(x, y)]) → mKeep h h' P (P + 2) → post none h') : MC G MX1_put d 0 0 [.ref P, .int x, .int y] h N post := by
  obtain ⟨-, K, Q, ⟨g0, g1, g2⟩, hKQ⟩ := hP
  have ci : (nI xs.length).toNatClampNeg = xs.length := nI_clamp (by omega)
  have vi : vp_in (nI xs.length) 3 := vp_in_nI hl (by decide)
  have w1 : ((3 : Int32) ≤ nI xs.length) = False := eq_false (by simp (disch := omega) only [z_nI, z_lit, z_neg, z_add, z_sub, z_mul, z_lt, z_le, z_eq, z_in, z_cl]; omega)
  refine MC.of (L0 := [some (.ref P), some (.int x), some (.int y)]) gd_X1_put (Nat.le_of_ble_eq_true rfl) rfl (MW.run gd_X1_put [] 30 ?_)
  simp (disch := omega) only [↓EVi, ↓EVc, ↓ft_X1_put, ↓reduceIte, ↓EV_obs, ↓EV_obn, ↓EV_ais, ↓EV_ain, ↓EV_ob g0, ↓EV_ai g1, ↓EV_ai g2, mdF, mRun, List.mem_cons, List.not_mem_nil, or_false, mtab_eq, Nat.reduceEqDiff, Nat.zero_add, ci, vi, w1, mset2, b10, b00, not_true_eq_false, not_false_eq_true, true_implies, false_implies, implies_true, and_true, true_and, Nat.le_refl, true_or, or_true, eq_self, List.length_cons, List.length_nil, Nat.reduceAdd, Nat.reduceLT, Nat.reduceLeDiff]
  rw [nI_1]
  refine hp _ ⟨by simp; omega, upd K xs.length x, upd Q xs.length y, ⟨?_, ?_, ?_⟩, fun i hi => ?_⟩ (fun z hz => ?_)
  · rw [mset_same, List.length_append, List.length_singleton]
  · rw [mset_ne (by omega), mset_ne (by omega), mset_same]
  · rw [mset_ne (by omega), mset_same]
  · rw [List.length_append, List.length_singleton] at hi
    by_cases c : i = xs.length
    · subst c
      rw [pk_us, pk_us, getD_app_e]
      exact ⟨rfl, rfl⟩
    · rw [pk_un c, pk_un c, getD_app_l (by omega)]
      exact hKQ i (by omega)
  · simp (disch := omega) only [mset_ne]
set_option maxRecDepth 10000 in
theorem p_putThree {g : Nat} {x y x2 y2 x3 y3 : Int32} (hd : 1 ≤ d) (hP : PZ h G P g []) (hp : ∀ h', PZ h' G P g [(x, y), (x2, y2), (x3, y3)] → mKeep h h' P (P + 2) → post none h') : MC G MX1_putThree d 0 0 [.ref P, .int x, .int y, .int x2, .int y2, .int x3, .int y3] h N post := by
  have hP0 := hP
  obtain ⟨-, K, Q, ⟨g0, g1, g2⟩, hKQ⟩ := hP0
  refine MC.of (L0 := [some (.ref P), some (.int x), some (.int y), some (.int x2), some (.int y2), some (.int x3), some (.int y3)]) gd_X1_putThree (Nat.le_of_ble_eq_true rfl) rfl (MW.run gd_X1_putThree [] 30 ?_)
  simp (disch := omega) only [↓EVi, ↓EVc, ↓ft_X1_putThree, ↓reduceIte, ↓EV_obs, ↓EV_obn, ↓EV_ais, ↓EV_ain, ↓EV_ob g0, mdF, mRun, List.mem_cons, List.not_mem_nil, or_false, mtab_eq, Nat.reduceEqDiff, Nat.zero_add, hd, mset2, b10, b00, not_true_eq_false, not_false_eq_true, true_implies, false_implies, implies_true, and_true, true_and, Nat.le_refl, true_or, or_true, eq_self, List.length_cons, List.length_nil, Nat.reduceAdd, Nat.reduceLT, Nat.reduceLeDiff]
  refine p_put hP (by decide) (fun h1 hP1 hk1 => ?_)
  obtain ⟨-, K1, Q1, ⟨q0, -⟩, -⟩ := id hP1
  simp (disch := omega) only [↓EVi, ↓EVc, ↓ft_X1_putThree, ↓reduceIte, ↓EV_obs, ↓EV_obn, ↓EV_ais, ↓EV_ain, ↓EV_ob q0, mdF, mRun, List.mem_cons, List.not_mem_nil, or_false, mtab_eq, Nat.reduceEqDiff, Nat.zero_add, hd, mset2, b10, b00, not_true_eq_false, not_false_eq_true, true_implies, false_implies, implies_true, and_true, true_and, Nat.le_refl, true_or, or_true, eq_self, List.length_cons, List.length_nil, Nat.reduceAdd, Nat.reduceLT, Nat.reduceLeDiff]
  refine p_put hP1 (Nat.le_of_ble_eq_true rfl) (fun h2 hP2 hk2 => ?_)
  obtain ⟨-, K2, Q2, ⟨r0, -⟩, -⟩ := id hP2
  simp (disch := omega) only [↓EVi, ↓EVc, ↓ft_X1_putThree, ↓reduceIte, ↓EV_obs, ↓EV_obn, ↓EV_ais, ↓EV_ain, ↓EV_ob r0, mdF, mRun, List.mem_cons, List.not_mem_nil, or_false, mtab_eq, Nat.reduceEqDiff, Nat.zero_add, hd, mset2, b10, b00, not_true_eq_false, not_false_eq_true, true_implies, false_implies, implies_true, and_true, true_and, Nat.le_refl, true_or, or_true, eq_self, List.length_cons, List.length_nil, Nat.reduceAdd, Nat.reduceLT, Nat.reduceLeDiff]
  refine p_put hP2 (by simp) (fun h3 hP3 hk3 => ?_)
  simp (disch := omega) only [↓EVi, ↓EVc, ↓ft_X1_putThree, ↓reduceIte, ↓EV_obs, ↓EV_obn, ↓EV_ais, ↓EV_ain, mdF, mRun, List.mem_cons, List.not_mem_nil, or_false, mtab_eq, Nat.reduceEqDiff, Nat.zero_add, hd, mset2, b10, b00, not_true_eq_false, not_false_eq_true, true_implies, false_implies, implies_true, and_true, true_and, Nat.le_refl, true_or, or_true, eq_self, List.length_cons, List.length_nil, Nat.reduceAdd, Nat.reduceLT, Nat.reduceLeDiff]
  exact hp h3 hP3 (mKeep_trans (mKeep_trans hk1 hk2) hk3)
theorem abs1 {p q : Nat} (hp : p < 100) (hq : q < 100) : ((if 0 ≤ nI p - nI q then nI p - nI q else 0 - (nI p - nI q)) = 1) ↔ nb p q := by
  by_cases c : q ≤ p
  · rw [if_pos (by simp (disch := omega) only [z_nI, z_lit, z_neg, z_add, z_sub, z_mul, z_lt, z_le, z_eq, z_in, z_cl]; omega)]
    simp (disch := omega) only [z_nI, z_lit, z_neg, z_add, z_sub, z_mul, z_lt, z_le, z_eq, z_in, z_cl]
    omega
  · rw [if_neg (by simp (disch := omega) only [z_nI, z_lit, z_neg, z_add, z_sub, z_mul, z_lt, z_le, z_eq, z_in, z_cl]; omega)]
    simp (disch := omega) only [z_nI, z_lit, z_neg, z_add, z_sub, z_mul, z_lt, z_le, z_eq, z_in, z_cl]
    omega
set_option maxRecDepth 10000 in
theorem p_hasKinds {i a b c : Nat} (hF : FrontR h G F es) (hi : i < es.length) (ha : a ≤ 2) (hb : b ≤ 2) (hc : c ≤ 2) (hp : post (some (.int (if i + 2 < es.length ∧ evK es i = a ∧ evK es (i + 1) = b ∧ evK es (i + 2) = c then 1 else 0))) h) : MC G MX1_hasKinds d 0 0 [.ref F, .int (nI i), .int (nI a), .int (nI b), .int (nI c)] h N post := by
  obtain ⟨hv, K, Q, A, ⟨g0, g1, g2, g3⟩, hKP, hA⟩ := hF
  have b30 := (vld_bd hv).1
  have e2 : nI i + 2 = nI (i + 2) := nI_add i 2
  refine MC.of (L0 := [some (.ref F), some (.int (nI i)), some (.int (nI a)), some (.int (nI b)), some (.int (nI c))]) gd_X1_hasKinds (Nat.le_of_ble_eq_true rfl) rfl (MW.run gd_X1_hasKinds [] 50 ?_)
  have w1 : (nI es.length ≤ nI i + 2) ↔ ¬ i + 2 < es.length := by simp (disch := omega) only [z_nI, z_lit, z_neg, z_add, z_sub, z_mul, z_lt, z_le, z_eq, z_in, z_cl]; omega
  have ci : (nI i).toNatClampNeg = i := nI_clamp (by omega)
  have vi : vp_in (nI i) 30 := vp_in_nI (by omega) (by decide)
  by_cases k : i + 2 < es.length
  · have f1 : (nI es.length ≤ nI i + 2) = False := eq_false (fun z => w1.mp z k)
    have c1 : (nI i + 1).toNatClampNeg = i + 1 := by rw [nI_1]; exact nI_clamp (by omega)
    have v1 : vp_in (nI i + 1) 30 := by rw [nI_1]; exact vp_in_nI (by omega) (by decide)
    have c2 : (nI i + 2).toNatClampNeg = i + 2 := by rw [e2]; exact nI_clamp (by omega)
    have v2 : vp_in (nI i + 2) 30 := by rw [e2]; exact vp_in_nI (by omega) (by decide)
    have s0 := vld_sm hv (i := i) (by omega)
    have s1 := vld_sm hv (i := i + 1) (by omega)
    have s2 := vld_sm hv (i := i + 2) (by omega)
    have q0 : K i = nI (evK es i) := (hKP i (by omega)).1
    have q1 : K (i + 1) = nI (evK es (i + 1)) := (hKP (i + 1) (by omega)).1
    have q2 : K (i + 2) = nI (evK es (i + 2)) := (hKP (i + 2) (by omega)).1
    have t0 : (nI (evK es i) = nI a) ↔ evK es i = a := nI_eq (by omega) (by omega)
    have t1 : (nI (evK es (i + 1)) = nI b) ↔ evK es (i + 1) = b := nI_eq (by omega) (by omega)
    have t2 : (nI (evK es (i + 2)) = nI c) ↔ evK es (i + 2) = c := nI_eq (by omega) (by omega)
    simp (disch := omega) only [↓EVi, ↓EVc, ↓ft_X1_hasKinds, ↓reduceIte, ↓EV_obs, ↓EV_obn, ↓EV_ais, ↓EV_ain, ↓EV_ob g0, ↓EV_ai g1, mdF, mRun, List.mem_cons, List.not_mem_nil, or_false, mtab_eq, Nat.reduceEqDiff, Nat.zero_add, f1, ci, vi, c1, v1, c2, v2, q0, q1, q2, t0, t1, t2, mset2, b10, b00, not_true_eq_false, not_false_eq_true, true_implies, false_implies, implies_true, and_true, true_and, Nat.le_refl, true_or, or_true, eq_self, List.length_cons, List.length_nil, Nat.reduceAdd, Nat.reduceLT, Nat.reduceLeDiff]
    by_cases k0 : evK es i = a <;> by_cases k1 : evK es (i + 1) = b <;> by_cases k2 : evK es (i + 2) = c <;> simp only [k, k0, k1, k2, true_and, and_true, and_false, false_and, and_self, ↓reduceIte] at hp <;> simp only [k0, k1, k2, not_true_eq_false, not_false_eq_true, true_implies, false_implies, and_true, true_and, implies_true, hp]
  · have f1 : (nI es.length ≤ nI i + 2) = True := eq_true (w1.mpr k)
    rw [if_neg (fun z => k z.1)] at hp
    simp (disch := omega) only [↓EVk, ↓w_if_eq, ↓w_an_ite, ↓mEndK, ↓w_retK0, ↓w_fitK, ↓w_dupK, ↓w_dup2K, w_an_back, ↓EVd, ↓ft_X1_hasKinds, ↓reduceIte, ↓EV_obs, ↓EV_obn, ↓EV_ais, ↓EV_ain, ↓EV_ob g0, mdF, mRun, List.mem_cons, List.not_mem_nil, or_false, mtab_eq, Nat.reduceEqDiff, Nat.zero_add, f1, mset2, b10, b00, not_true_eq_false, not_false_eq_true, true_implies, false_implies, implies_true, and_true, true_and, Nat.le_refl, true_or, or_true, eq_self, List.length_cons, List.length_nil, Nat.reduceAdd, Nat.reduceLT, Nat.reduceLeDiff]
    exact hp
set_option maxRecDepth 10000 in
theorem p_gtb {i : Nat} (hd : 1 ≤ d) (hF : FrontR h G F es) (hi : i + 2 < es.length) (hp : post (some (.int (if evP es (i + 2) = evP es i ∧ nb (evP es i) (evP es (i + 1)) then 1 else 0))) h) : MC G MX1_goesThereAndBack d 0 0 [.ref F, .int (nI i)] h N post := by
  obtain ⟨hv, K, Q, A, ⟨g0, g1, g2, g3⟩, hKP, hA⟩ := hF
  have b30 := (vld_bd hv).1
  have e2 : nI i + 2 = nI (i + 2) := nI_add i 2
  have ci : (nI i).toNatClampNeg = i := nI_clamp (by omega)
  have vi : vp_in (nI i) 30 := vp_in_nI (by omega) (by decide)
  have c1 : (nI i + 1).toNatClampNeg = i + 1 := by rw [nI_1]; exact nI_clamp (by omega)
  have v1 : vp_in (nI i + 1) 30 := by rw [nI_1]; exact vp_in_nI (by omega) (by decide)
  have c2 : (nI i + 2).toNatClampNeg = i + 2 := by rw [e2]; exact nI_clamp (by omega)
  have v2 : vp_in (nI i + 2) 30 := by rw [e2]; exact vp_in_nI (by omega) (by decide)
  have s0 := vld_sm hv (i := i) (by omega)
  have s1 := vld_sm hv (i := i + 1) (by omega)
  have s2 := vld_sm hv (i := i + 2) (by omega)
  have q0 : Q i = nI (evP es i) := (hKP i (by omega)).2
  have q1 : Q (i + 1) = nI (evP es (i + 1)) := (hKP (i + 1) (by omega)).2
  have q2 : Q (i + 2) = nI (evP es (i + 2)) := (hKP (i + 2) (by omega)).2
  have t0 : (nI (evP es i) = nI (evP es (i + 2))) ↔ evP es (i + 2) = evP es i := by
    rw [nI_eq (by omega) (by omega)]
    exact ⟨fun z => z.symm, fun z => z.symm⟩
  have t1 := abs1 (p := evP es i) (q := evP es (i + 1)) (by omega) (by omega)
  refine MC.of (L0 := [some (.ref F), some (.int (nI i))]) gd_X1_goesThereAndBack (Nat.le_of_ble_eq_true rfl) rfl (MW.run gd_X1_goesThereAndBack [] 50 ?_)
  simp (disch := omega) only [↓EVi, ↓EVc, ↓ft_X1_goesThereAndBack, ↓reduceIte, ↓EV_obs, ↓EV_obn, ↓EV_ais, ↓EV_ain, ↓EV_ob g0, ↓EV_ai g2, mdF, mRun, List.mem_cons, List.not_mem_nil, or_false, mtab_eq, Nat.reduceEqDiff, Nat.zero_add, ci, vi, c1, v1, c2, v2, q0, q1, q2, hd, mset2, b10, b00, not_true_eq_false, not_false_eq_true, true_implies, false_implies, implies_true, and_true, true_and, Nat.le_refl, true_or, or_true, eq_self, List.length_cons, List.length_nil, Nat.reduceAdd, Nat.reduceLT, Nat.reduceLeDiff]
  rw [t0, t1]
  refine ⟨fun z => ?_, fun z => ⟨fun z2 => ?_, fun z2 => ?_⟩⟩
  · rw [if_neg (fun y => z y.1)] at hp
    exact hp
  · rw [if_neg (fun y => z2 y.2)] at hp
    exact hp
  · rw [if_pos ⟨Classical.not_not.mp z, Classical.not_not.mp z2⟩] at hp
    exact hp

set_option maxRecDepth 10000 in
theorem p_planSlide {i : Nat} (hd : 3 ≤ d) (hFP : P + 2 < F ∨ F + 3 < P) (hF : FrontR h G F es) (hP : PA h G P) (hi : i < es.length)
    (hp1 : ∀ g ps, mvP es 1 i = some (g, ps) → ∀ h', PatchR h' G P g ps → mKeep h h' P (P + 2) → post (some (.int 1)) h')
    (hp0 : mvP es 1 i = none → ∀ h', PA h' G P → mKeep h h' P (P + 2) → post (some (.int 0)) h') : MC G MX1_planSlide d 0 0 [.ref P, .ref F, .int (nI i)] h N post := by
  have hd1 : 1 ≤ d := by omega
  have hF0 := hF
  obtain ⟨hv, K, Q, A, ⟨g0, g1, g2, g3⟩, hKP, hA⟩ := hF0
  have hP0 := hP
  obtain ⟨PK, PQ, pn, pg, p0, p1, p2⟩ := hP0
  have b30 := (vld_bd hv).1
  have ci : (nI i).toNatClampNeg = i := nI_clamp (by omega)
  have vi : vp_in (nI i) 30 := vp_in_nI (by omega) (by decide)
  refine MC.of (L0 := [some (.ref P), some (.ref F), some (.int (nI i)), none, none]) gd_X1_planSlide (Nat.le_of_ble_eq_true rfl) rfl (MW.run gd_X1_planSlide [] 40 ?_)
  simp (disch := omega) only [↓EVi, ↓EVc, ↓ft_X1_planSlide, ↓reduceIte, ↓EV_obs, ↓EV_obn, ↓EV_ais, ↓EV_ain, ↓EV_ob g0, ↓EV_ob p0, mdF, mRun, List.mem_cons, List.not_mem_nil, or_false, mtab_eq, Nat.reduceEqDiff, Nat.zero_add, hd1, mset2, b10, b00, not_true_eq_false, not_false_eq_true, true_implies, false_implies, implies_true, and_true, true_and, Nat.le_refl, true_or, or_true, eq_self, List.length_cons, List.length_nil, Nat.reduceAdd, Nat.reduceLT, Nat.reduceLeDiff]
  have no : ¬ k3 es i 1 1 1 → post (some (.int 0)) h := by
    intro z
    refine hp0 ?_ h hP mKeep_rfl
    unfold mvP
    rw [if_neg (by decide), if_pos rfl, if_neg z]
  refine p_hasKinds hF hi (by decide) (by decide) (by decide) ?_
  by_cases c : i + 2 < es.length ∧ evK es i = 1 ∧ evK es (i + 1) = 1 ∧ evK es (i + 2) = 1
  case neg =>
    rw [if_neg c]
    simp (disch := omega) only [↓EVi, ↓EVc, ↓ft_X1_planSlide, ↓reduceIte, ↓EV_obs, ↓EV_obn, ↓EV_ais, ↓EV_ain, ↓EV_ob g0, ↓EV_ob p0, mdF, mRun, List.mem_cons, List.not_mem_nil, or_false, mtab_eq, Nat.reduceEqDiff, Nat.zero_add, hd1, mset2, b10, b00, not_true_eq_false, not_false_eq_true, true_implies, false_implies, implies_true, and_true, true_and, Nat.le_refl, true_or, or_true, eq_self, List.length_cons, List.length_nil, Nat.reduceAdd, Nat.reduceLT, Nat.reduceLeDiff]
    exact no (fun z => c ⟨z.1, z.2.1, z.2.2.1, z.2.2.2.1⟩)
  rw [if_pos c]
  simp (disch := omega) only [↓EVi, ↓EVc, ↓ft_X1_planSlide, ↓reduceIte, ↓EV_obs, ↓EV_obn, ↓EV_ais, ↓EV_ain, ↓EV_ob g0, ↓EV_ob p0, mdF, mRun, List.mem_cons, List.not_mem_nil, or_false, mtab_eq, Nat.reduceEqDiff, Nat.zero_add, hd1, mset2, b10, b00, not_true_eq_false, not_false_eq_true, true_implies, false_implies, implies_true, and_true, true_and, Nat.le_refl, true_or, or_true, eq_self, List.length_cons, List.length_nil, Nat.reduceAdd, Nat.reduceLT, Nat.reduceLeDiff]
  refine p_gtb (by omega) hF c.1 ?_
  by_cases c2 : evP es (i + 2) = evP es i ∧ nb (evP es i) (evP es (i + 1))
  case neg =>
    rw [if_neg c2]
    simp (disch := omega) only [↓EVi, ↓EVc, ↓ft_X1_planSlide, ↓reduceIte, ↓EV_obs, ↓EV_obn, ↓EV_ais, ↓EV_ain, ↓EV_ob g0, ↓EV_ob p0, mdF, mRun, List.mem_cons, List.not_mem_nil, or_false, mtab_eq, Nat.reduceEqDiff, Nat.zero_add, hd1, mset2, b10, b00, not_true_eq_false, not_false_eq_true, true_implies, false_implies, implies_true, and_true, true_and, Nat.le_refl, true_or, or_true, eq_self, List.length_cons, List.length_nil, Nat.reduceAdd, Nat.reduceLT, Nat.reduceLeDiff]
    exact no (fun z => c2 ⟨z.2.2.2.2.1, z.2.2.2.2.2⟩)
  rw [if_pos c2]
  have pl : mvP es 1 i = some (3, [(1, evP es (i + 1)), (1, evP es i), (1, evP es (i + 1))]) := by
    unfold mvP
    rw [if_neg (by decide), if_pos rfl, if_pos ⟨c.1, c.2.1, c.2.2.1, c.2.2.2, c2.1, c2.2⟩]
  have s0 := vld_sm hv (i := i) hi
  have s1 := vld_sm hv (i := i + 1) (by omega)
  simp (disch := omega) only [↓EVi, ↓EVc, ↓ft_X1_planSlide, ↓reduceIte, ↓EV_obs, ↓EV_obn, ↓EV_ais, ↓EV_ain, ↓EV_ob g0, ↓EV_ob p0, mdF, mRun, List.mem_cons, List.not_mem_nil, or_false, mtab_eq, Nat.reduceEqDiff, Nat.zero_add, hd1, mset2, b10, b00, not_true_eq_false, not_false_eq_true, true_implies, false_implies, implies_true, and_true, true_and, Nat.le_refl, true_or, or_true, eq_self, List.length_cons, List.length_nil, Nat.reduceAdd, Nat.reduceLT, Nat.reduceLeDiff]
  refine p_begin (g := 3) hP rfl (fun h1 hP1 hk1 => ?_)
  have hF1 := FrontR_keep hF hk1 (by omega)
  obtain ⟨-, K1, Q1, A1, ⟨f0, f1, f2, f3⟩, hKP1, hA1⟩ := hF1
  obtain ⟨-, K2, Q2, ⟨r0, -⟩, -⟩ := id hP1
  have c1 : (nI i + 1).toNatClampNeg = i + 1 := by rw [nI_1]; exact nI_clamp (by omega)
  have v1 : vp_in (nI i + 1) 30 := by rw [nI_1]; exact vp_in_nI (by omega) (by decide)
  have q0 : Q1 i = nI (evP es i) := (hKP1 i (by omega)).2
  have q1 : Q1 (i + 1) = nI (evP es (i + 1)) := (hKP1 (i + 1) (by omega)).2
  simp (disch := omega) only [↓EVi, ↓EVc, ↓ft_X1_planSlide, ↓reduceIte, ↓EV_obs, ↓EV_obn, ↓EV_ais, ↓EV_ain, ↓EV_ob f0, ↓EV_ob r0, ↓EV_ai f2, mdF, mRun, List.mem_cons, List.not_mem_nil, or_false, mtab_eq, Nat.reduceEqDiff, Nat.zero_add, hd1, ci, vi, c1, v1, q0, q1, mset2, b10, b00, not_true_eq_false, not_false_eq_true, true_implies, false_implies, implies_true, and_true, true_and, Nat.le_refl, true_or, or_true, eq_self, List.length_cons, List.length_nil, Nat.reduceAdd, Nat.reduceLT, Nat.reduceLeDiff]
  refine p_putThree (by omega) hP1 (fun h2 hP2 hk2 => ?_)
  simp (disch := omega) only [↓EVi, ↓EVc, ↓ft_X1_planSlide, ↓reduceIte, ↓EV_obs, ↓EV_obn, ↓EV_ais, ↓EV_ain, mdF, mRun, List.mem_cons, List.not_mem_nil, or_false, mtab_eq, Nat.reduceEqDiff, Nat.zero_add, hd1, mset2, b10, b00, not_true_eq_false, not_false_eq_true, true_implies, false_implies, implies_true, and_true, true_and, Nat.le_refl, true_or, or_true, eq_self, List.length_cons, List.length_nil, Nat.reduceAdd, Nat.reduceLT, Nat.reduceLeDiff]
  refine hp1 _ _ pl h2 (PZ_R hP2 rfl ?_) (mKeep_trans hk1 hk2)
  exact sm3 (by decide) (by omega) (by decide) (by omega) (by decide) (by omega)
set_option maxRecDepth 10000 in
theorem p_planUncurl {i : Nat} (hd : 3 ≤ d) (hFP : P + 2 < F ∨ F + 3 < P) (hF : FrontR h G F es) (hP : PA h G P) (hi : i < es.length)
    (hp1 : ∀ g ps, mvP es 2 i = some (g, ps) → ∀ h', PatchR h' G P g ps → mKeep h h' P (P + 2) → post (some (.int 1)) h')
    (hp0 : mvP es 2 i = none → ∀ h', PA h' G P → mKeep h h' P (P + 2) → post (some (.int 0)) h') : MC G MX1_planUncurl d 0 0 [.ref P, .ref F, .int (nI i)] h N post := by
  have hd1 : 1 ≤ d := by omega
  have hF0 := hF
  obtain ⟨hv, K, Q, A, ⟨g0, g1, g2, g3⟩, hKP, hA⟩ := hF0
  have hP0 := hP
  obtain ⟨PK, PQ, pn, pg, p0, p1, p2⟩ := hP0
  have b30 := (vld_bd hv).1
  have ci : (nI i).toNatClampNeg = i := nI_clamp (by omega)
  have vi : vp_in (nI i) 30 := vp_in_nI (by omega) (by decide)
  refine MC.of (L0 := [some (.ref P), some (.ref F), some (.int (nI i))]) gd_X1_planUncurl (Nat.le_of_ble_eq_true rfl) rfl (MW.run gd_X1_planUncurl [] 40 ?_)
  simp (disch := omega) only [↓EVi, ↓EVc, ↓ft_X1_planUncurl, ↓reduceIte, ↓EV_obs, ↓EV_obn, ↓EV_ais, ↓EV_ain, ↓EV_ob g0, ↓EV_ob p0, mdF, mRun, List.mem_cons, List.not_mem_nil, or_false, mtab_eq, Nat.reduceEqDiff, Nat.zero_add, hd1, mset2, b10, b00, not_true_eq_false, not_false_eq_true, true_implies, false_implies, implies_true, and_true, true_and, Nat.le_refl, true_or, or_true, eq_self, List.length_cons, List.length_nil, Nat.reduceAdd, Nat.reduceLT, Nat.reduceLeDiff]
  refine p_begin (g := 3) hP rfl (fun h1 hP1 hk1 => ?_)
  have hF1 := FrontR_keep hF hk1 (by omega)
  have no : ¬ k3 es i 0 1 2 → post (some (.int 0)) h1 := by
    intro z
    refine hp0 ?_ h1 (PZ_A hP1) hk1
    unfold mvP
    rw [if_neg (by decide), if_neg (by decide), if_pos rfl, if_neg z]
  simp (disch := omega) only [↓EVi, ↓EVc, ↓ft_X1_planUncurl, ↓reduceIte, ↓EV_obs, ↓EV_obn, ↓EV_ais, ↓EV_ain, mdF, mRun, List.mem_cons, List.not_mem_nil, or_false, mtab_eq, Nat.reduceEqDiff, Nat.zero_add, hd1, mset2, b10, b00, not_true_eq_false, not_false_eq_true, true_implies, false_implies, implies_true, and_true, true_and, Nat.le_refl, true_or, or_true, eq_self, List.length_cons, List.length_nil, Nat.reduceAdd, Nat.reduceLT, Nat.reduceLeDiff]
  refine p_hasKinds hF1 hi (by decide) (by decide) (by decide) ?_
  by_cases c : i + 2 < es.length ∧ evK es i = 0 ∧ evK es (i + 1) = 1 ∧ evK es (i + 2) = 2
  case neg =>
    rw [if_neg c]
    simp (disch := omega) only [↓EVi, ↓EVc, ↓ft_X1_planUncurl, ↓reduceIte, ↓EV_obs, ↓EV_obn, ↓EV_ais, ↓EV_ain, mdF, mRun, List.mem_cons, List.not_mem_nil, or_false, mtab_eq, Nat.reduceEqDiff, Nat.zero_add, hd1, mset2, b10, b00, not_true_eq_false, not_false_eq_true, true_implies, false_implies, implies_true, and_true, true_and, Nat.le_refl, true_or, or_true, eq_self, List.length_cons, List.length_nil, Nat.reduceAdd, Nat.reduceLT, Nat.reduceLeDiff]
    exact no (fun z => c ⟨z.1, z.2.1, z.2.2.1, z.2.2.2.1⟩)
  rw [if_pos c]
  simp (disch := omega) only [↓EVi, ↓EVc, ↓ft_X1_planUncurl, ↓reduceIte, ↓EV_obs, ↓EV_obn, ↓EV_ais, ↓EV_ain, mdF, mRun, List.mem_cons, List.not_mem_nil, or_false, mtab_eq, Nat.reduceEqDiff, Nat.zero_add, hd1, mset2, b10, b00, not_true_eq_false, not_false_eq_true, true_implies, false_implies, implies_true, and_true, true_and, Nat.le_refl, true_or, or_true, eq_self, List.length_cons, List.length_nil, Nat.reduceAdd, Nat.reduceLT, Nat.reduceLeDiff]
  refine p_gtb (by omega) hF1 c.1 ?_
  by_cases c2 : evP es (i + 2) = evP es i ∧ nb (evP es i) (evP es (i + 1))
  case neg =>
    rw [if_neg c2]
    simp (disch := omega) only [↓EVi, ↓EVc, ↓ft_X1_planUncurl, ↓reduceIte, ↓EV_obs, ↓EV_obn, ↓EV_ais, ↓EV_ain, mdF, mRun, List.mem_cons, List.not_mem_nil, or_false, mtab_eq, Nat.reduceEqDiff, Nat.zero_add, hd1, mset2, b10, b00, not_true_eq_false, not_false_eq_true, true_implies, false_implies, implies_true, and_true, true_and, Nat.le_refl, true_or, or_true, eq_self, List.length_cons, List.length_nil, Nat.reduceAdd, Nat.reduceLT, Nat.reduceLeDiff]
    exact no (fun z => c2 ⟨z.2.2.2.2.1, z.2.2.2.2.2⟩)
  rw [if_pos c2]
  simp (disch := omega) only [↓EVi, ↓EVc, ↓ft_X1_planUncurl, ↓reduceIte, ↓EV_obs, ↓EV_obn, ↓EV_ais, ↓EV_ain, mdF, mRun, List.mem_cons, List.not_mem_nil, or_false, mtab_eq, Nat.reduceEqDiff, Nat.zero_add, hd1, mset2, b10, b00, not_true_eq_false, not_false_eq_true, true_implies, false_implies, implies_true, and_true, true_and, Nat.le_refl, true_or, or_true, eq_self, List.length_cons, List.length_nil, Nat.reduceAdd, Nat.reduceLT, Nat.reduceLeDiff]
  refine hp1 3 [] ?_ h1 (PZ_R hP1 rfl (fun j hj => absurd hj (Nat.not_lt_zero j))) hk1
  unfold mvP
  rw [if_neg (by decide), if_neg (by decide), if_pos rfl, if_pos ⟨c.1, c.2.1, c.2.2.1, c.2.2.2, c2.1, c2.2⟩]
set_option maxRecDepth 10000 in
theorem p_planPull {i : Nat} (hd : 3 ≤ d) (hFP : P + 2 < F ∨ F + 3 < P) (hF : FrontR h G F es) (hP : PA h G P) (hi : i < es.length)
    (hp1 : ∀ g ps, mvP es 3 i = some (g, ps) → ∀ h', PatchR h' G P g ps → mKeep h h' P (P + 2) → post (some (.int 1)) h')
    (hp0 : mvP es 3 i = none → ∀ h', PA h' G P → mKeep h h' P (P + 2) → post (some (.int 0)) h') : MC G MX1_planPull d 0 0 [.ref P, .ref F, .int (nI i)] h N post := by
  have hd1 : 1 ≤ d := by omega
  have hF0 := hF
  obtain ⟨hv, K, Q, A, ⟨g0, g1, g2, g3⟩, hKP, hA⟩ := hF0
  have hP0 := hP
  obtain ⟨PK, PQ, pn, pg, p0, p1, p2⟩ := hP0
  have b30 := (vld_bd hv).1
  have ci : (nI i).toNatClampNeg = i := nI_clamp (by omega)
  have vi : vp_in (nI i) 30 := vp_in_nI (by omega) (by decide)
  refine MC.of (L0 := [some (.ref P), some (.ref F), some (.int (nI i)), none, none]) gd_X1_planPull (Nat.le_of_ble_eq_true rfl) rfl (MW.run gd_X1_planPull [38] 40 ?_)
  simp (disch := omega) only [↓EVi, ↓EVc, ↓ft_X1_planPull, ↓reduceIte, ↓EV_obs, ↓EV_obn, ↓EV_ais, ↓EV_ain, ↓EV_ob g0, ↓EV_ob p0, mdF, mRun, List.mem_cons, List.not_mem_nil, or_false, mtab_eq, Nat.reduceEqDiff, Nat.zero_add, hd1, mset2, b10, b00, not_true_eq_false, not_false_eq_true, true_implies, false_implies, implies_true, and_true, true_and, Nat.le_refl, true_or, or_true, eq_self, List.length_cons, List.length_nil, Nat.reduceAdd, Nat.reduceLT, Nat.reduceLeDiff]
  have no : ¬ k3 es i 0 1 1 → ¬ k3 es i 1 1 2 → post (some (.int 0)) h := by
    intro z z2
    refine hp0 ?_ h hP mKeep_rfl
    unfold mvP
    rw [if_neg (by decide), if_neg (by decide), if_neg (by decide), if_pos rfl, if_neg z, if_neg z2]
  have s0 := vld_sm hv (i := i) hi
  have yes : ∀ (q : Nat) (x y : Int32), q ≤ 2 → mvP es 3 i = some (3, [(q, evP es (i + 1))]) → i + 2 < es.length → ((x = 1 ∧ q = 0) ∨ (x = 0 ∧ q = 2)) → MW G MX1_planPull (mz G d 0 0 post) 38 [some (.ref P), some (.ref F), some (.int (nI i)), some (.int x), some (.int y)] [] h (N, 0, 0) := by
    intro q x y hq pl hl hx
    have s1 := vld_sm hv (i := i + 1) (by omega)
    refine MW.run1 gd_X1_planPull [] 30 ?_
    simp (disch := omega) only [↓EVi, ↓EVc, ↓ft_X1_planPull, ↓reduceIte, ↓EV_obs, ↓EV_obn, ↓EV_ais, ↓EV_ain, ↓EV_ob g0, ↓EV_ob p0, mdF, mRun, List.mem_cons, List.not_mem_nil, or_false, mtab_eq, Nat.reduceEqDiff, Nat.zero_add, hd1, mset2, b10, b00, not_true_eq_false, not_false_eq_true, true_implies, false_implies, implies_true, and_true, true_and, Nat.le_refl, true_or, or_true, eq_self, List.length_cons, List.length_nil, Nat.reduceAdd, Nat.reduceLT, Nat.reduceLeDiff]
    refine p_begin (g := 3) hP rfl (fun h1 hP1 hk1 => ?_)
    have hF1 := FrontR_keep hF hk1 (by omega)
    obtain ⟨-, K1, Q1, A1, ⟨f0, f1, f2, f3⟩, hKP1, hA1⟩ := hF1
    obtain ⟨-, K2, Q2, ⟨r0, -⟩, -⟩ := id hP1
    have c1 : (nI i + 1).toNatClampNeg = i + 1 := by rw [nI_1]; exact nI_clamp (by omega)
    have v1 : vp_in (nI i + 1) 30 := by rw [nI_1]; exact vp_in_nI (by omega) (by decide)
    have q1 : Q1 (i + 1) = nI (evP es (i + 1)) := (hKP1 (i + 1) (by omega)).2
    rcases hx with ⟨rfl, rfl⟩ | ⟨rfl, rfl⟩
    · simp (disch := omega) only [↓EVi, ↓EVc, ↓ft_X1_planPull, ↓reduceIte, ↓EV_obs, ↓EV_obn, ↓EV_ais, ↓EV_ain, ↓EV_ob f0, ↓EV_ob r0, ↓EV_ai f2, mdF, mRun, List.mem_cons, List.not_mem_nil, or_false, mtab_eq, Nat.reduceEqDiff, Nat.zero_add, hd1, c1, v1, q1, mset2, b10, b00, not_true_eq_false, not_false_eq_true, true_implies, false_implies, implies_true, and_true, true_and, Nat.le_refl, true_or, or_true, eq_self, List.length_cons, List.length_nil, Nat.reduceAdd, Nat.reduceLT, Nat.reduceLeDiff]
      refine p_put hP1 (by decide) (fun h2 hP2 hk2 => ?_)
      simp (disch := omega) only [↓EVi, ↓EVc, ↓ft_X1_planPull, ↓reduceIte, ↓EV_obs, ↓EV_obn, ↓EV_ais, ↓EV_ain, mdF, mRun, List.mem_cons, List.not_mem_nil, or_false, mtab_eq, Nat.reduceEqDiff, Nat.zero_add, hd1, mset2, b10, b00, not_true_eq_false, not_false_eq_true, true_implies, false_implies, implies_true, and_true, true_and, Nat.le_refl, true_or, or_true, eq_self, List.length_cons, List.length_nil, Nat.reduceAdd, Nat.reduceLT, Nat.reduceLeDiff]
      exact hp1 _ _ pl h2 (PZ_R hP2 rfl (sm1 (by decide) (by omega))) (mKeep_trans hk1 hk2)
    · simp (disch := omega) only [↓EVi, ↓EVc, ↓ft_X1_planPull, ↓reduceIte, ↓EV_obs, ↓EV_obn, ↓EV_ais, ↓EV_ain, ↓EV_ob f0, ↓EV_ob r0, ↓EV_ai f2, mdF, mRun, List.mem_cons, List.not_mem_nil, or_false, mtab_eq, Nat.reduceEqDiff, Nat.zero_add, hd1, c1, v1, q1, mset2, b10, b00, not_true_eq_false, not_false_eq_true, true_implies, false_implies, implies_true, and_true, true_and, Nat.le_refl, true_or, or_true, eq_self, List.length_cons, List.length_nil, Nat.reduceAdd, Nat.reduceLT, Nat.reduceLeDiff]
      refine p_put hP1 (by decide) (fun h2 hP2 hk2 => ?_)
      simp (disch := omega) only [↓EVi, ↓EVc, ↓ft_X1_planPull, ↓reduceIte, ↓EV_obs, ↓EV_obn, ↓EV_ais, ↓EV_ain, mdF, mRun, List.mem_cons, List.not_mem_nil, or_false, mtab_eq, Nat.reduceEqDiff, Nat.zero_add, hd1, mset2, b10, b00, not_true_eq_false, not_false_eq_true, true_implies, false_implies, implies_true, and_true, true_and, Nat.le_refl, true_or, or_true, eq_self, List.length_cons, List.length_nil, Nat.reduceAdd, Nat.reduceLT, Nat.reduceLeDiff]
      exact hp1 _ _ pl h2 (PZ_R hP2 rfl (sm1 (by decide) (by omega))) (mKeep_trans hk1 hk2)
  refine p_hasKinds hF hi (by decide) (by decide) (by decide) ?_
  by_cases c : i + 2 < es.length ∧ evK es i = 0 ∧ evK es (i + 1) = 1 ∧ evK es (i + 2) = 1
  · have cn : ¬ (i + 2 < es.length ∧ evK es i = 1 ∧ evK es (i + 1) = 1 ∧ evK es (i + 2) = 2) := fun z => by have := z.2.1; have := c.2.1; omega
    rw [if_pos c]
    simp (disch := omega) only [↓EVi, ↓EVc, ↓ft_X1_planPull, ↓reduceIte, ↓EV_obs, ↓EV_obn, ↓EV_ais, ↓EV_ain, ↓EV_ob g0, ↓EV_ob p0, mdF, mRun, List.mem_cons, List.not_mem_nil, or_false, mtab_eq, Nat.reduceEqDiff, Nat.zero_add, hd1, mset2, b10, b00, not_true_eq_false, not_false_eq_true, true_implies, false_implies, implies_true, and_true, true_and, Nat.le_refl, true_or, or_true, eq_self, List.length_cons, List.length_nil, Nat.reduceAdd, Nat.reduceLT, Nat.reduceLeDiff]
    refine p_hasKinds hF hi (by decide) (by decide) (by decide) ?_
    rw [if_neg cn]
    simp (disch := omega) only [↓EVi, ↓EVc, ↓ft_X1_planPull, ↓reduceIte, ↓EV_obs, ↓EV_obn, ↓EV_ais, ↓EV_ain, ↓EV_ob g0, ↓EV_ob p0, mdF, mRun, List.mem_cons, List.not_mem_nil, or_false, mtab_eq, Nat.reduceEqDiff, Nat.zero_add, hd1, mset2, b10, b00, not_true_eq_false, not_false_eq_true, true_implies, false_implies, implies_true, and_true, true_and, Nat.le_refl, true_or, or_true, eq_self, List.length_cons, List.length_nil, Nat.reduceAdd, Nat.reduceLT, Nat.reduceLeDiff]
    refine p_gtb (by omega) hF c.1 ?_
    by_cases c2 : evP es (i + 2) = evP es i ∧ nb (evP es i) (evP es (i + 1))
    · rw [if_pos c2]
      simp (disch := omega) only [↓EVi, ↓EVc, ↓ft_X1_planPull, ↓reduceIte, ↓EV_obs, ↓EV_obn, ↓EV_ais, ↓EV_ain, ↓EV_ob g0, ↓EV_ob p0, mdF, mRun, List.mem_cons, List.not_mem_nil, or_false, mtab_eq, Nat.reduceEqDiff, Nat.zero_add, hd1, mset2, b10, b00, not_true_eq_false, not_false_eq_true, true_implies, false_implies, implies_true, and_true, true_and, Nat.le_refl, true_or, or_true, eq_self, List.length_cons, List.length_nil, Nat.reduceAdd, Nat.reduceLT, Nat.reduceLeDiff]
      refine yes 0 1 0 (by decide) ?_ c.1 (Or.inl ⟨rfl, rfl⟩)
      unfold mvP
      rw [if_neg (by decide), if_neg (by decide), if_neg (by decide), if_pos rfl, if_pos ⟨c.1, c.2.1, c.2.2.1, c.2.2.2, c2.1, c2.2⟩]
    · rw [if_neg c2]
      simp (disch := omega) only [↓EVi, ↓EVc, ↓ft_X1_planPull, ↓reduceIte, ↓EV_obs, ↓EV_obn, ↓EV_ais, ↓EV_ain, ↓EV_ob g0, ↓EV_ob p0, mdF, mRun, List.mem_cons, List.not_mem_nil, or_false, mtab_eq, Nat.reduceEqDiff, Nat.zero_add, hd1, mset2, b10, b00, not_true_eq_false, not_false_eq_true, true_implies, false_implies, implies_true, and_true, true_and, Nat.le_refl, true_or, or_true, eq_self, List.length_cons, List.length_nil, Nat.reduceAdd, Nat.reduceLT, Nat.reduceLeDiff]
      exact no (fun z => c2 ⟨z.2.2.2.2.1, z.2.2.2.2.2⟩) (fun z => c2 ⟨z.2.2.2.2.1, z.2.2.2.2.2⟩)
  rw [if_neg c]
  simp (disch := omega) only [↓EVi, ↓EVc, ↓ft_X1_planPull, ↓reduceIte, ↓EV_obs, ↓EV_obn, ↓EV_ais, ↓EV_ain, ↓EV_ob g0, ↓EV_ob p0, mdF, mRun, List.mem_cons, List.not_mem_nil, or_false, mtab_eq, Nat.reduceEqDiff, Nat.zero_add, hd1, mset2, b10, b00, not_true_eq_false, not_false_eq_true, true_implies, false_implies, implies_true, and_true, true_and, Nat.le_refl, true_or, or_true, eq_self, List.length_cons, List.length_nil, Nat.reduceAdd, Nat.reduceLT, Nat.reduceLeDiff]
  refine p_hasKinds hF hi (by decide) (by decide) (by decide) ?_
  by_cases cn : i + 2 < es.length ∧ evK es i = 1 ∧ evK es (i + 1) = 1 ∧ evK es (i + 2) = 2
  case neg =>
    rw [if_neg cn]
    simp (disch := omega) only [↓EVi, ↓EVc, ↓ft_X1_planPull, ↓reduceIte, ↓EV_obs, ↓EV_obn, ↓EV_ais, ↓EV_ain, ↓EV_ob g0, ↓EV_ob p0, mdF, mRun, List.mem_cons, List.not_mem_nil, or_false, mtab_eq, Nat.reduceEqDiff, Nat.zero_add, hd1, mset2, b10, b00, not_true_eq_false, not_false_eq_true, true_implies, false_implies, implies_true, and_true, true_and, Nat.le_refl, true_or, or_true, eq_self, List.length_cons, List.length_nil, Nat.reduceAdd, Nat.reduceLT, Nat.reduceLeDiff]
    exact no (fun z => c ⟨z.1, z.2.1, z.2.2.1, z.2.2.2.1⟩) (fun z => cn ⟨z.1, z.2.1, z.2.2.1, z.2.2.2.1⟩)
  rw [if_pos cn]
  simp (disch := omega) only [↓EVi, ↓EVc, ↓ft_X1_planPull, ↓reduceIte, ↓EV_obs, ↓EV_obn, ↓EV_ais, ↓EV_ain, ↓EV_ob g0, ↓EV_ob p0, mdF, mRun, List.mem_cons, List.not_mem_nil, or_false, mtab_eq, Nat.reduceEqDiff, Nat.zero_add, hd1, mset2, b10, b00, not_true_eq_false, not_false_eq_true, true_implies, false_implies, implies_true, and_true, true_and, Nat.le_refl, true_or, or_true, eq_self, List.length_cons, List.length_nil, Nat.reduceAdd, Nat.reduceLT, Nat.reduceLeDiff]
  refine p_gtb (by omega) hF cn.1 ?_
  by_cases c2 : evP es (i + 2) = evP es i ∧ nb (evP es i) (evP es (i + 1))
  · rw [if_pos c2]
    simp (disch := omega) only [↓EVi, ↓EVc, ↓ft_X1_planPull, ↓reduceIte, ↓EV_obs, ↓EV_obn, ↓EV_ais, ↓EV_ain, ↓EV_ob g0, ↓EV_ob p0, mdF, mRun, List.mem_cons, List.not_mem_nil, or_false, mtab_eq, Nat.reduceEqDiff, Nat.zero_add, hd1, mset2, b10, b00, not_true_eq_false, not_false_eq_true, true_implies, false_implies, implies_true, and_true, true_and, Nat.le_refl, true_or, or_true, eq_self, List.length_cons, List.length_nil, Nat.reduceAdd, Nat.reduceLT, Nat.reduceLeDiff]
    refine yes 2 0 1 (by decide) ?_ cn.1 (Or.inr ⟨rfl, rfl⟩)
    unfold mvP
    rw [if_neg (by decide), if_neg (by decide), if_neg (by decide), if_pos rfl, if_neg (fun z => c ⟨z.1, z.2.1, z.2.2.1, z.2.2.2.1⟩), if_pos ⟨cn.1, cn.2.1, cn.2.2.1, cn.2.2.2, c2.1, c2.2⟩]
  · rw [if_neg c2]
    simp (disch := omega) only [↓EVi, ↓EVc, ↓ft_X1_planPull, ↓reduceIte, ↓EV_obs, ↓EV_obn, ↓EV_ais, ↓EV_ain, ↓EV_ob g0, ↓EV_ob p0, mdF, mRun, List.mem_cons, List.not_mem_nil, or_false, mtab_eq, Nat.reduceEqDiff, Nat.zero_add, hd1, mset2, b10, b00, not_true_eq_false, not_false_eq_true, true_implies, false_implies, implies_true, and_true, true_and, Nat.le_refl, true_or, or_true, eq_self, List.length_cons, List.length_nil, Nat.reduceAdd, Nat.reduceLT, Nat.reduceLeDiff]
    exact no (fun z => c2 ⟨z.2.2.2.2.1, z.2.2.2.2.2⟩) (fun z => c2 ⟨z.2.2.2.2.1, z.2.2.2.2.2⟩)
set_option maxRecDepth 10000 in
theorem p_planStraighten {i : Nat} (hd : 3 ≤ d) (hFP : P + 2 < F ∨ F + 3 < P) (hF : FrontR h G F es) (hP : PA h G P) (hi : i < es.length)
    (hp1 : ∀ g ps, mvP es 4 i = some (g, ps) → ∀ h', PatchR h' G P g ps → mKeep h h' P (P + 2) → post (some (.int 1)) h')
    (hp0 : mvP es 4 i = none → ∀ h', PA h' G P → mKeep h h' P (P + 2) → post (some (.int 0)) h') : MC G MX1_planStraighten d 0 0 [.ref P, .ref F, .int (nI i)] h N post := by
  have hd1 : 1 ≤ d := by omega
  have hF0 := hF
  obtain ⟨hv, K, Q, A, ⟨g0, g1, g2, g3⟩, hKP, hA⟩ := hF0
  have hP0 := hP
  obtain ⟨PK, PQ, pn, pg, p0, p1, p2⟩ := hP0
  have b30 := (vld_bd hv).1
  have ci : (nI i).toNatClampNeg = i := nI_clamp (by omega)
  have vi : vp_in (nI i) 30 := vp_in_nI (by omega) (by decide)
  refine MC.of (L0 := [some (.ref P), some (.ref F), some (.int (nI i))]) gd_X1_planStraighten (Nat.le_of_ble_eq_true rfl) rfl (MW.run gd_X1_planStraighten [] 40 ?_)
  simp (disch := omega) only [↓EVi, ↓EVc, ↓ft_X1_planStraighten, ↓reduceIte, ↓EV_obs, ↓EV_obn, ↓EV_ais, ↓EV_ain, ↓EV_ob g0, ↓EV_ob p0, mdF, mRun, List.mem_cons, List.not_mem_nil, or_false, mtab_eq, Nat.reduceEqDiff, Nat.zero_add, hd1, mset2, b10, b00, not_true_eq_false, not_false_eq_true, true_implies, false_implies, implies_true, and_true, true_and, Nat.le_refl, true_or, or_true, eq_self, List.length_cons, List.length_nil, Nat.reduceAdd, Nat.reduceLT, Nat.reduceLeDiff]
  refine p_begin (g := 2) hP rfl (fun h1 hP1 hk1 => ?_)
  have hF1 := FrontR_keep hF hk1 (by omega)
  obtain ⟨-, K1, Q1, A1, ⟨f0, f1, f2, f3⟩, hKP1, hA1⟩ := hF1
  have e4 : ∀ q : Prop, mvP es 4 i = (if i + 1 < es.length ∧ evK es i = 0 ∧ evK es (i + 1) = 2 ∧ nb (evP es i) (evP es (i + 1)) then some (2, []) else none) := by
    intro _
    unfold mvP
    rw [if_neg (by decide), if_neg (by decide), if_neg (by decide), if_neg (by decide)]
  have no : ¬ (i + 1 < es.length ∧ evK es i = 0 ∧ evK es (i + 1) = 2 ∧ nb (evP es i) (evP es (i + 1))) → post (some (.int 0)) h1 := fun z => hp0 (by rw [e4 True, if_neg z]) h1 (PZ_A hP1) hk1
  have s0 := vld_sm hv (i := i) hi
  have w1 : (nI es.length ≤ nI i + 1) ↔ ¬ i + 1 < es.length := by simp (disch := omega) only [z_nI, z_lit, z_neg, z_add, z_sub, z_mul, z_lt, z_le, z_eq, z_in, z_cl]; omega
  by_cases k : i + 1 < es.length
  case neg =>
    have t1 : (nI es.length ≤ nI i + 1) = True := eq_true (w1.mpr k)
    simp (disch := omega) only [↓EVk, ↓w_if_eq, ↓w_an_ite, ↓mEndK, ↓w_retK0, ↓w_fitK, ↓w_dupK, ↓w_dup2K, w_an_back, ↓EVd, ↓ft_X1_planStraighten, ↓reduceIte, ↓EV_obs, ↓EV_obn, ↓EV_ais, ↓EV_ain, ↓EV_ob f0, mdF, mRun, List.mem_cons, List.not_mem_nil, or_false, mtab_eq, Nat.reduceEqDiff, Nat.zero_add, t1, mset2, b10, b00, not_true_eq_false, not_false_eq_true, true_implies, false_implies, implies_true, and_true, true_and, Nat.le_refl, true_or, or_true, eq_self, List.length_cons, List.length_nil, Nat.reduceAdd, Nat.reduceLT, Nat.reduceLeDiff]
    exact no (fun z => k z.1)
  have t1 : (nI es.length ≤ nI i + 1) = False := eq_false (fun z => w1.mp z k)
  have s1 := vld_sm hv (i := i + 1) k
  have c1 : (nI i + 1).toNatClampNeg = i + 1 := by rw [nI_1]; exact nI_clamp (by omega)
  have v1 : vp_in (nI i + 1) 30 := by rw [nI_1]; exact vp_in_nI (by omega) (by decide)
  have k0 : K1 i = nI (evK es i) := (hKP1 i (by omega)).1
  have k1 : K1 (i + 1) = nI (evK es (i + 1)) := (hKP1 (i + 1) (by omega)).1
  have q0 : Q1 i = nI (evP es i) := (hKP1 i (by omega)).2
  have q1 : Q1 (i + 1) = nI (evP es (i + 1)) := (hKP1 (i + 1) (by omega)).2
  have t2 : (nI (evK es i) = 0) ↔ evK es i = 0 := nI_eq (b := 0) (by omega) (by omega)
  have t3 : (nI (evK es (i + 1)) = 2) ↔ evK es (i + 1) = 2 := nI_eq (b := 2) (by omega) (by omega)
  have t4 := abs1 (p := evP es i) (q := evP es (i + 1)) (by omega) (by omega)
  simp (disch := omega) only [↓EVi, ↓EVc, ↓ft_X1_planStraighten, ↓reduceIte, ↓EV_obs, ↓EV_obn, ↓EV_ais, ↓EV_ain, ↓EV_ob f0, ↓EV_ai f1, ↓EV_ai f2, mdF, mRun, List.mem_cons, List.not_mem_nil, or_false, mtab_eq, Nat.reduceEqDiff, Nat.zero_add, t1, ci, vi, c1, v1, k0, k1, q0, q1, hd1, mset2, b10, b00, not_true_eq_false, not_false_eq_true, true_implies, false_implies, implies_true, and_true, true_and, Nat.le_refl, true_or, or_true, eq_self, List.length_cons, List.length_nil, Nat.reduceAdd, Nat.reduceLT, Nat.reduceLeDiff]
  rw [t2, t3, t4]
  refine ⟨fun z => no (fun y => z y.2.1), fun z => ⟨fun z2 => no (fun y => z2 y.2.2.1), fun z2 => ⟨fun z3 => no (fun y => z3 y.2.2.2), fun z3 => ?_⟩⟩⟩
  refine hp1 2 [] ?_ h1 (PZ_R hP1 rfl (fun j hj => absurd hj (Nat.not_lt_zero j))) hk1
  rw [e4 True, if_pos ⟨k, Classical.not_not.mp z, Classical.not_not.mp z2, Classical.not_not.mp z3⟩]
set_option maxRecDepth 10000 in
theorem p_planSwap {i : Nat} (hd : 3 ≤ d) (hFP : P + 2 < F ∨ F + 3 < P) (hF : FrontR h G F es) (hP : PA h G P) (hi : i < es.length)
    (hp1 : ∀ g ps, mvP es 0 i = some (g, ps) → ∀ h', PatchR h' G P g ps → mKeep h h' P (P + 2) → post (some (.int 1)) h')
    (hp0 : mvP es 0 i = none → ∀ h', PA h' G P → mKeep h h' P (P + 2) → post (some (.int 0)) h') : MC G MX1_planSwap d 0 0 [.ref P, .ref F, .int (nI i)] h N post := by
  have hd1 : 1 ≤ d := by omega
  have hF0 := hF
  obtain ⟨hv, K, Q, A, ⟨g0, g1, g2, g3⟩, hKP, hA⟩ := hF0
  have hP0 := hP
  obtain ⟨PK, PQ, pn, pg, p0, p1, p2⟩ := hP0
  have b30 := (vld_bd hv).1
  have ci : (nI i).toNatClampNeg = i := nI_clamp (by omega)
  have vi : vp_in (nI i) 30 := vp_in_nI (by omega) (by decide)
  have s1 := vld_sm hv (i := i) hi
  refine MC.of (L0 := [some (.ref P), some (.ref F), some (.int (nI i)), none, none, none, none, none, none]) gd_X1_planSwap (Nat.le_of_ble_eq_true rfl) rfl (MW.run gd_X1_planSwap [] 90 ?_)
  have w1 : (nI i + 1 < nI es.length) ↔ i + 1 < es.length := by simp (disch := omega) only [z_nI, z_lit, z_neg, z_add, z_sub, z_mul, z_lt, z_le, z_eq, z_in, z_cl]; omega
  by_cases hl : i + 1 < es.length
  case neg =>
    have t1 : (nI i + 1 < nI es.length) = False := eq_false (fun z => hl (w1.mp z))
    simp (disch := omega) only [↓EVk, ↓w_if_eq, ↓w_an_ite, ↓mEndK, ↓w_retK0, ↓w_fitK, ↓w_dupK, ↓w_dup2K, w_an_back, ↓EVd, ↓ft_X1_planSwap, ↓reduceIte, ↓EV_obs, ↓EV_obn, ↓EV_ais, ↓EV_ain, ↓EV_ob g0, mdF, mRun, List.mem_cons, List.not_mem_nil, or_false, mtab_eq, Nat.reduceEqDiff, Nat.zero_add, t1, mset2, b10, b00, not_true_eq_false, not_false_eq_true, true_implies, false_implies, implies_true, and_true, true_and, Nat.le_refl, true_or, or_true, eq_self, List.length_cons, List.length_nil, Nat.reduceAdd, Nat.reduceLT, Nat.reduceLeDiff]
    refine hp0 ?_ h hP mKeep_rfl
    unfold mvP
    rw [if_pos rfl, if_neg hl]
  have t1 : (nI i + 1 < nI es.length) = True := eq_true (w1.mpr hl)
  have s2 := vld_sm hv (i := i + 1) hl
  have c1 : (nI i + 1).toNatClampNeg = i + 1 := by rw [nI_1]; exact nI_clamp (by omega)
  have v1 : vp_in (nI i + 1) 30 := by rw [nI_1]; exact vp_in_nI (by omega) (by decide)
  have k0 : K i = nI (evK es i) := (hKP i (by omega)).1
  have k1 : K (i + 1) = nI (evK es (i + 1)) := (hKP (i + 1) (by omega)).1
  have q0 : Q i = nI (evP es i) := (hKP i (by omega)).2
  have q1 : Q (i + 1) = nI (evP es (i + 1)) := (hKP (i + 1) (by omega)).2
  have pl0 : mvP es 0 i = (if evP es i + (if evK es i = 2 then 0 else 2) ≤ evP es (i + 1) then some (2, [(evK es (i + 1), subA (evP es (i + 1)) (evK es i)), (evK es i, evP es i)]) else if evP es (i + 1) + (if evK es (i + 1) = 0 then 0 else 2) ≤ evP es i then some (2, [(evK es (i + 1), evP es (i + 1)), (evK es i, stp (evP es i) (evK es (i + 1)))]) else none) := by
    unfold mvP
    rw [if_pos rfl, if_pos hl]
  rcases (by omega : evK es i = 0 ∨ evK es i = 1 ∨ evK es i = 2) with he | he | he <;> rcases (by omega : evK es (i + 1) = 0 ∨ evK es (i + 1) = 1 ∨ evK es (i + 1) = 2) with hg | hg | hg
  · have ke : K i = 0 := by rw [k0, he]; rfl
    have kg : K (i + 1) = 0 := by rw [k1, hg]; rfl
    rw [he, hg] at pl0
    simp only [subA, stp] at pl0
    simp only [↓reduceIte, Nat.reduceEqDiff, Nat.add_zero] at pl0
    simp (disch := omega) only [↓EVk, ↓w_if_eq, ↓w_an_ite, ↓mEndK, ↓w_retK0, ↓w_fitK, ↓w_dupK, ↓w_dup2K, w_an_back, ↓EVd, ↓ft_X1_planSwap, ↓reduceIte, ↓EV_obs, ↓EV_obn, ↓EV_ais, ↓EV_ain, ↓EV_ob g0, ↓EV_ob p0, ↓EV_ai g1, ↓EV_ai g2, mdF, mRun, List.mem_cons, List.not_mem_nil, or_false, mtab_eq, Nat.reduceEqDiff, Nat.zero_add, t1, ci, vi, c1, v1, ke, kg, q0, q1, b02, b12, b20, b10, hd1, mset2, b10, b00, not_true_eq_false, not_false_eq_true, true_implies, false_implies, implies_true, and_true, true_and, Nat.le_refl, true_or, or_true, eq_self, List.length_cons, List.length_nil, Nat.reduceAdd, Nat.reduceLT, Nat.reduceLeDiff]
    refine p_begin (g := 2) hP rfl (fun h1 hP1 hk1 => ?_)
    obtain ⟨-, K2, Q2, ⟨r0, -⟩, -⟩ := id hP1
    simp (disch := omega) only [↓EVi, ↓EVc, ↓ft_X1_planSwap, ↓reduceIte, ↓EV_obs, ↓EV_obn, ↓EV_ais, ↓EV_ain, ↓EV_ob r0, mdF, mRun, List.mem_cons, List.not_mem_nil, or_false, mtab_eq, Nat.reduceEqDiff, Nat.zero_add, hd1, mset2, b10, b00, not_true_eq_false, not_false_eq_true, true_implies, false_implies, implies_true, and_true, true_and, Nat.le_refl, true_or, or_true, eq_self, List.length_cons, List.length_nil, Nat.reduceAdd, Nat.reduceLT, Nat.reduceLeDiff]
    have x1 : (nI (evP es (i + 1)) < nI (evP es i) + 2) ↔ ¬ evP es i + 2 ≤ evP es (i + 1) := by simp (disch := omega) only [z_nI, z_lit, z_neg, z_add, z_sub, z_mul, z_lt, z_le, z_eq, z_in, z_cl]; omega
    have x2 : (nI (evP es i) < nI (evP es (i + 1)) + 0) ↔ ¬ evP es (i + 1) + 0 ≤ evP es i := by simp (disch := omega) only [z_nI, z_lit, z_neg, z_add, z_sub, z_mul, z_lt, z_le, z_eq, z_in, z_cl]; omega
    refine ⟨fun y1 => ⟨fun y2 => ?_, fun y2 => ?_⟩, fun y1 => ?_⟩
    · refine hp0 ?_ h1 (PZ_A hP1) hk1
      rw [pl0, if_neg (fun z => x1.mp y1 (by omega)), if_neg (fun z => x2.mp y2 (by omega))]
    · have z2 : evP es (i + 1) + 0 ≤ evP es i := Classical.not_not.mp (fun z => y2 (x2.mpr z))
      rw [if_neg (fun z => x1.mp y1 (by omega)), if_pos (by omega)] at pl0
      refine p_put hP1 (by decide) (fun h2 hP2 hk2 => ?_)
      obtain ⟨-, K3, Q3, ⟨u0, -⟩, -⟩ := id hP2
      simp (disch := omega) only [↓EVi, ↓EVc, ↓ft_X1_planSwap, ↓reduceIte, ↓EV_obs, ↓EV_obn, ↓EV_ais, ↓EV_ain, ↓EV_ob u0, mdF, mRun, List.mem_cons, List.not_mem_nil, or_false, mtab_eq, Nat.reduceEqDiff, Nat.zero_add, hd1, mset2, b10, b00, not_true_eq_false, not_false_eq_true, true_implies, false_implies, implies_true, and_true, true_and, Nat.le_refl, true_or, or_true, eq_self, List.length_cons, List.length_nil, Nat.reduceAdd, Nat.reduceLT, Nat.reduceLeDiff]
      refine t_strandsAdded ?_
      simp (disch := omega) only [↓EVi, ↓EVc, ↓ft_X1_planSwap, ↓reduceIte, ↓EV_obs, ↓EV_obn, ↓EV_ais, ↓EV_ain, ↓EV_ob u0, mdF, mRun, List.mem_cons, List.not_mem_nil, or_false, mtab_eq, Nat.reduceEqDiff, Nat.zero_add, hd1, b02, b12, b20, b10, mset2, b10, b00, not_true_eq_false, not_false_eq_true, true_implies, false_implies, implies_true, and_true, true_and, Nat.le_refl, true_or, or_true, eq_self, List.length_cons, List.length_nil, Nat.reduceAdd, Nat.reduceLT, Nat.reduceLeDiff]
      refine p_put hP2 (Nat.le_of_ble_eq_true rfl) (fun h3 hP3 hk3 => ?_)
      simp (disch := omega) only [↓EVi, ↓EVc, ↓ft_X1_planSwap, ↓reduceIte, ↓EV_obs, ↓EV_obn, ↓EV_ais, ↓EV_ain, mdF, mRun, List.mem_cons, List.not_mem_nil, or_false, mtab_eq, Nat.reduceEqDiff, Nat.zero_add, hd1, mset2, b10, b00, not_true_eq_false, not_false_eq_true, true_implies, false_implies, implies_true, and_true, true_and, Nat.le_refl, true_or, or_true, eq_self, List.length_cons, List.length_nil, Nat.reduceAdd, Nat.reduceLT, Nat.reduceLeDiff]
      have en : nI (evP es i) + 2 = nI (evP es i + 2) := by simp (disch := omega) only [z_nI, z_lit, z_neg, z_add, z_sub, z_mul, z_lt, z_le, z_eq, z_in, z_cl]; omega
      rw [en] at hP3
      exact hp1 _ _ pl0 h3 (PZ_R hP3 rfl (sm2 (by decide) (by omega) (by decide) (by omega))) (mKeep_trans (mKeep_trans hk1 hk2) hk3)
    · have z1 : evP es i + 2 ≤ evP es (i + 1) := Classical.not_not.mp (fun z => y1 (x1.mpr z))
      rw [if_pos (by omega)] at pl0
      refine t_strandsAdded ?_
      simp (disch := omega) only [↓EVi, ↓EVc, ↓ft_X1_planSwap, ↓reduceIte, ↓EV_obs, ↓EV_obn, ↓EV_ais, ↓EV_ain, ↓EV_ob r0, mdF, mRun, List.mem_cons, List.not_mem_nil, or_false, mtab_eq, Nat.reduceEqDiff, Nat.zero_add, hd1, b02, b12, b20, b10, mset2, b10, b00, not_true_eq_false, not_false_eq_true, true_implies, false_implies, implies_true, and_true, true_and, Nat.le_refl, true_or, or_true, eq_self, List.length_cons, List.length_nil, Nat.reduceAdd, Nat.reduceLT, Nat.reduceLeDiff]
      refine p_put hP1 (by decide) (fun h2 hP2 hk2 => ?_)
      obtain ⟨-, K3, Q3, ⟨u0, -⟩, -⟩ := id hP2
      simp (disch := omega) only [↓EVi, ↓EVc, ↓ft_X1_planSwap, ↓reduceIte, ↓EV_obs, ↓EV_obn, ↓EV_ais, ↓EV_ain, ↓EV_ob u0, mdF, mRun, List.mem_cons, List.not_mem_nil, or_false, mtab_eq, Nat.reduceEqDiff, Nat.zero_add, hd1, mset2, b10, b00, not_true_eq_false, not_false_eq_true, true_implies, false_implies, implies_true, and_true, true_and, Nat.le_refl, true_or, or_true, eq_self, List.length_cons, List.length_nil, Nat.reduceAdd, Nat.reduceLT, Nat.reduceLeDiff]
      refine p_put hP2 (Nat.le_of_ble_eq_true rfl) (fun h3 hP3 hk3 => ?_)
      simp (disch := omega) only [↓EVi, ↓EVc, ↓ft_X1_planSwap, ↓reduceIte, ↓EV_obs, ↓EV_obn, ↓EV_ais, ↓EV_ain, mdF, mRun, List.mem_cons, List.not_mem_nil, or_false, mtab_eq, Nat.reduceEqDiff, Nat.zero_add, hd1, mset2, b10, b00, not_true_eq_false, not_false_eq_true, true_implies, false_implies, implies_true, and_true, true_and, Nat.le_refl, true_or, or_true, eq_self, List.length_cons, List.length_nil, Nat.reduceAdd, Nat.reduceLT, Nat.reduceLeDiff]
      have en : nI (evP es (i + 1)) - 2 = nI (evP es (i + 1) - 2) := by simp (disch := omega) only [z_nI, z_lit, z_neg, z_add, z_sub, z_mul, z_lt, z_le, z_eq, z_in, z_cl]; omega
      rw [en] at hP3
      exact hp1 _ _ pl0 h3 (PZ_R hP3 rfl (sm2 (by decide) (by omega) (by decide) (by omega))) (mKeep_trans (mKeep_trans hk1 hk2) hk3)
  · have ke : K i = 0 := by rw [k0, he]; rfl
    have kg : K (i + 1) = 1 := by rw [k1, hg]; rfl
    rw [he, hg] at pl0
    simp only [subA, stp] at pl0
    simp only [↓reduceIte, Nat.reduceEqDiff, Nat.add_zero] at pl0
    simp (disch := omega) only [↓EVk, ↓w_if_eq, ↓w_an_ite, ↓mEndK, ↓w_retK0, ↓w_fitK, ↓w_dupK, ↓w_dup2K, w_an_back, ↓EVd, ↓ft_X1_planSwap, ↓reduceIte, ↓EV_obs, ↓EV_obn, ↓EV_ais, ↓EV_ain, ↓EV_ob g0, ↓EV_ob p0, ↓EV_ai g1, ↓EV_ai g2, mdF, mRun, List.mem_cons, List.not_mem_nil, or_false, mtab_eq, Nat.reduceEqDiff, Nat.zero_add, t1, ci, vi, c1, v1, ke, kg, q0, q1, b02, b12, b20, b10, hd1, mset2, b10, b00, not_true_eq_false, not_false_eq_true, true_implies, false_implies, implies_true, and_true, true_and, Nat.le_refl, true_or, or_true, eq_self, List.length_cons, List.length_nil, Nat.reduceAdd, Nat.reduceLT, Nat.reduceLeDiff]
    refine p_begin (g := 2) hP rfl (fun h1 hP1 hk1 => ?_)
    obtain ⟨-, K2, Q2, ⟨r0, -⟩, -⟩ := id hP1
    simp (disch := omega) only [↓EVi, ↓EVc, ↓ft_X1_planSwap, ↓reduceIte, ↓EV_obs, ↓EV_obn, ↓EV_ais, ↓EV_ain, ↓EV_ob r0, mdF, mRun, List.mem_cons, List.not_mem_nil, or_false, mtab_eq, Nat.reduceEqDiff, Nat.zero_add, hd1, mset2, b10, b00, not_true_eq_false, not_false_eq_true, true_implies, false_implies, implies_true, and_true, true_and, Nat.le_refl, true_or, or_true, eq_self, List.length_cons, List.length_nil, Nat.reduceAdd, Nat.reduceLT, Nat.reduceLeDiff]
    have x1 : (nI (evP es (i + 1)) < nI (evP es i) + 2) ↔ ¬ evP es i + 2 ≤ evP es (i + 1) := by simp (disch := omega) only [z_nI, z_lit, z_neg, z_add, z_sub, z_mul, z_lt, z_le, z_eq, z_in, z_cl]; omega
    have x2 : (nI (evP es i) < nI (evP es (i + 1)) + 2) ↔ ¬ evP es (i + 1) + 2 ≤ evP es i := by simp (disch := omega) only [z_nI, z_lit, z_neg, z_add, z_sub, z_mul, z_lt, z_le, z_eq, z_in, z_cl]; omega
    refine ⟨fun y1 => ⟨fun y2 => ?_, fun y2 => ?_⟩, fun y1 => ?_⟩
    · refine hp0 ?_ h1 (PZ_A hP1) hk1
      rw [pl0, if_neg (fun z => x1.mp y1 (by omega)), if_neg (fun z => x2.mp y2 (by omega))]
    · have z2 : evP es (i + 1) + 2 ≤ evP es i := Classical.not_not.mp (fun z => y2 (x2.mpr z))
      rw [if_neg (fun z => x1.mp y1 (by omega)), if_pos (by omega)] at pl0
      refine p_put hP1 (by decide) (fun h2 hP2 hk2 => ?_)
      obtain ⟨-, K3, Q3, ⟨u0, -⟩, -⟩ := id hP2
      simp (disch := omega) only [↓EVi, ↓EVc, ↓ft_X1_planSwap, ↓reduceIte, ↓EV_obs, ↓EV_obn, ↓EV_ais, ↓EV_ain, ↓EV_ob u0, mdF, mRun, List.mem_cons, List.not_mem_nil, or_false, mtab_eq, Nat.reduceEqDiff, Nat.zero_add, hd1, mset2, b10, b00, not_true_eq_false, not_false_eq_true, true_implies, false_implies, implies_true, and_true, true_and, Nat.le_refl, true_or, or_true, eq_self, List.length_cons, List.length_nil, Nat.reduceAdd, Nat.reduceLT, Nat.reduceLeDiff]
      refine t_strandsAdded ?_
      simp (disch := omega) only [↓EVi, ↓EVc, ↓ft_X1_planSwap, ↓reduceIte, ↓EV_obs, ↓EV_obn, ↓EV_ais, ↓EV_ain, ↓EV_ob u0, mdF, mRun, List.mem_cons, List.not_mem_nil, or_false, mtab_eq, Nat.reduceEqDiff, Nat.zero_add, hd1, b02, b12, b20, b10, mset2, b10, b00, not_true_eq_false, not_false_eq_true, true_implies, false_implies, implies_true, and_true, true_and, Nat.le_refl, true_or, or_true, eq_self, List.length_cons, List.length_nil, Nat.reduceAdd, Nat.reduceLT, Nat.reduceLeDiff]
      refine p_put hP2 (Nat.le_of_ble_eq_true rfl) (fun h3 hP3 hk3 => ?_)
      simp (disch := omega) only [↓EVi, ↓EVc, ↓ft_X1_planSwap, ↓reduceIte, ↓EV_obs, ↓EV_obn, ↓EV_ais, ↓EV_ain, mdF, mRun, List.mem_cons, List.not_mem_nil, or_false, mtab_eq, Nat.reduceEqDiff, Nat.zero_add, hd1, mset2, b10, b00, not_true_eq_false, not_false_eq_true, true_implies, false_implies, implies_true, and_true, true_and, Nat.le_refl, true_or, or_true, eq_self, List.length_cons, List.length_nil, Nat.reduceAdd, Nat.reduceLT, Nat.reduceLeDiff]
      have en : nI (evP es i) + 0 = nI (evP es i) := by simp (disch := omega) only [z_nI, z_lit, z_neg, z_add, z_sub, z_mul, z_lt, z_le, z_eq, z_in, z_cl]; omega
      rw [en] at hP3
      exact hp1 _ _ pl0 h3 (PZ_R hP3 rfl (sm2 (by decide) (by omega) (by decide) (by omega))) (mKeep_trans (mKeep_trans hk1 hk2) hk3)
    · have z1 : evP es i + 2 ≤ evP es (i + 1) := Classical.not_not.mp (fun z => y1 (x1.mpr z))
      rw [if_pos (by omega)] at pl0
      refine t_strandsAdded ?_
      simp (disch := omega) only [↓EVi, ↓EVc, ↓ft_X1_planSwap, ↓reduceIte, ↓EV_obs, ↓EV_obn, ↓EV_ais, ↓EV_ain, ↓EV_ob r0, mdF, mRun, List.mem_cons, List.not_mem_nil, or_false, mtab_eq, Nat.reduceEqDiff, Nat.zero_add, hd1, b02, b12, b20, b10, mset2, b10, b00, not_true_eq_false, not_false_eq_true, true_implies, false_implies, implies_true, and_true, true_and, Nat.le_refl, true_or, or_true, eq_self, List.length_cons, List.length_nil, Nat.reduceAdd, Nat.reduceLT, Nat.reduceLeDiff]
      refine p_put hP1 (by decide) (fun h2 hP2 hk2 => ?_)
      obtain ⟨-, K3, Q3, ⟨u0, -⟩, -⟩ := id hP2
      simp (disch := omega) only [↓EVi, ↓EVc, ↓ft_X1_planSwap, ↓reduceIte, ↓EV_obs, ↓EV_obn, ↓EV_ais, ↓EV_ain, ↓EV_ob u0, mdF, mRun, List.mem_cons, List.not_mem_nil, or_false, mtab_eq, Nat.reduceEqDiff, Nat.zero_add, hd1, mset2, b10, b00, not_true_eq_false, not_false_eq_true, true_implies, false_implies, implies_true, and_true, true_and, Nat.le_refl, true_or, or_true, eq_self, List.length_cons, List.length_nil, Nat.reduceAdd, Nat.reduceLT, Nat.reduceLeDiff]
      refine p_put hP2 (Nat.le_of_ble_eq_true rfl) (fun h3 hP3 hk3 => ?_)
      simp (disch := omega) only [↓EVi, ↓EVc, ↓ft_X1_planSwap, ↓reduceIte, ↓EV_obs, ↓EV_obn, ↓EV_ais, ↓EV_ain, mdF, mRun, List.mem_cons, List.not_mem_nil, or_false, mtab_eq, Nat.reduceEqDiff, Nat.zero_add, hd1, mset2, b10, b00, not_true_eq_false, not_false_eq_true, true_implies, false_implies, implies_true, and_true, true_and, Nat.le_refl, true_or, or_true, eq_self, List.length_cons, List.length_nil, Nat.reduceAdd, Nat.reduceLT, Nat.reduceLeDiff]
      have en : nI (evP es (i + 1)) - 2 = nI (evP es (i + 1) - 2) := by simp (disch := omega) only [z_nI, z_lit, z_neg, z_add, z_sub, z_mul, z_lt, z_le, z_eq, z_in, z_cl]; omega
      rw [en] at hP3
      exact hp1 _ _ pl0 h3 (PZ_R hP3 rfl (sm2 (by decide) (by omega) (by decide) (by omega))) (mKeep_trans (mKeep_trans hk1 hk2) hk3)
  · have ke : K i = 0 := by rw [k0, he]; rfl
    have kg : K (i + 1) = 2 := by rw [k1, hg]; rfl
    rw [he, hg] at pl0
    simp only [subA, stp] at pl0
    simp only [↓reduceIte, Nat.reduceEqDiff, Nat.add_zero] at pl0
    simp (disch := omega) only [↓EVk, ↓w_if_eq, ↓w_an_ite, ↓mEndK, ↓w_retK0, ↓w_fitK, ↓w_dupK, ↓w_dup2K, w_an_back, ↓EVd, ↓ft_X1_planSwap, ↓reduceIte, ↓EV_obs, ↓EV_obn, ↓EV_ais, ↓EV_ain, ↓EV_ob g0, ↓EV_ob p0, ↓EV_ai g1, ↓EV_ai g2, mdF, mRun, List.mem_cons, List.not_mem_nil, or_false, mtab_eq, Nat.reduceEqDiff, Nat.zero_add, t1, ci, vi, c1, v1, ke, kg, q0, q1, b02, b12, b20, b10, hd1, mset2, b10, b00, not_true_eq_false, not_false_eq_true, true_implies, false_implies, implies_true, and_true, true_and, Nat.le_refl, true_or, or_true, eq_self, List.length_cons, List.length_nil, Nat.reduceAdd, Nat.reduceLT, Nat.reduceLeDiff]
    refine p_begin (g := 2) hP rfl (fun h1 hP1 hk1 => ?_)
    obtain ⟨-, K2, Q2, ⟨r0, -⟩, -⟩ := id hP1
    simp (disch := omega) only [↓EVi, ↓EVc, ↓ft_X1_planSwap, ↓reduceIte, ↓EV_obs, ↓EV_obn, ↓EV_ais, ↓EV_ain, ↓EV_ob r0, mdF, mRun, List.mem_cons, List.not_mem_nil, or_false, mtab_eq, Nat.reduceEqDiff, Nat.zero_add, hd1, mset2, b10, b00, not_true_eq_false, not_false_eq_true, true_implies, false_implies, implies_true, and_true, true_and, Nat.le_refl, true_or, or_true, eq_self, List.length_cons, List.length_nil, Nat.reduceAdd, Nat.reduceLT, Nat.reduceLeDiff]
    have x1 : (nI (evP es (i + 1)) < nI (evP es i) + 2) ↔ ¬ evP es i + 2 ≤ evP es (i + 1) := by simp (disch := omega) only [z_nI, z_lit, z_neg, z_add, z_sub, z_mul, z_lt, z_le, z_eq, z_in, z_cl]; omega
    have x2 : (nI (evP es i) < nI (evP es (i + 1)) + 2) ↔ ¬ evP es (i + 1) + 2 ≤ evP es i := by simp (disch := omega) only [z_nI, z_lit, z_neg, z_add, z_sub, z_mul, z_lt, z_le, z_eq, z_in, z_cl]; omega
    refine ⟨fun y1 => ⟨fun y2 => ?_, fun y2 => ?_⟩, fun y1 => ?_⟩
    · refine hp0 ?_ h1 (PZ_A hP1) hk1
      rw [pl0, if_neg (fun z => x1.mp y1 (by omega)), if_neg (fun z => x2.mp y2 (by omega))]
    · have z2 : evP es (i + 1) + 2 ≤ evP es i := Classical.not_not.mp (fun z => y2 (x2.mpr z))
      rw [if_neg (fun z => x1.mp y1 (by omega)), if_pos (by omega)] at pl0
      refine p_put hP1 (by decide) (fun h2 hP2 hk2 => ?_)
      obtain ⟨-, K3, Q3, ⟨u0, -⟩, -⟩ := id hP2
      simp (disch := omega) only [↓EVi, ↓EVc, ↓ft_X1_planSwap, ↓reduceIte, ↓EV_obs, ↓EV_obn, ↓EV_ais, ↓EV_ain, ↓EV_ob u0, mdF, mRun, List.mem_cons, List.not_mem_nil, or_false, mtab_eq, Nat.reduceEqDiff, Nat.zero_add, hd1, mset2, b10, b00, not_true_eq_false, not_false_eq_true, true_implies, false_implies, implies_true, and_true, true_and, Nat.le_refl, true_or, or_true, eq_self, List.length_cons, List.length_nil, Nat.reduceAdd, Nat.reduceLT, Nat.reduceLeDiff]
      refine t_strandsAdded ?_
      simp (disch := omega) only [↓EVi, ↓EVc, ↓ft_X1_planSwap, ↓reduceIte, ↓EV_obs, ↓EV_obn, ↓EV_ais, ↓EV_ain, ↓EV_ob u0, mdF, mRun, List.mem_cons, List.not_mem_nil, or_false, mtab_eq, Nat.reduceEqDiff, Nat.zero_add, hd1, b02, b12, b20, b10, mset2, b10, b00, not_true_eq_false, not_false_eq_true, true_implies, false_implies, implies_true, and_true, true_and, Nat.le_refl, true_or, or_true, eq_self, List.length_cons, List.length_nil, Nat.reduceAdd, Nat.reduceLT, Nat.reduceLeDiff]
      refine p_put hP2 (Nat.le_of_ble_eq_true rfl) (fun h3 hP3 hk3 => ?_)
      simp (disch := omega) only [↓EVi, ↓EVc, ↓ft_X1_planSwap, ↓reduceIte, ↓EV_obs, ↓EV_obn, ↓EV_ais, ↓EV_ain, mdF, mRun, List.mem_cons, List.not_mem_nil, or_false, mtab_eq, Nat.reduceEqDiff, Nat.zero_add, hd1, mset2, b10, b00, not_true_eq_false, not_false_eq_true, true_implies, false_implies, implies_true, and_true, true_and, Nat.le_refl, true_or, or_true, eq_self, List.length_cons, List.length_nil, Nat.reduceAdd, Nat.reduceLT, Nat.reduceLeDiff]
      have en : nI (evP es i) + -2 = nI (evP es i - 2) := by simp (disch := omega) only [z_nI, z_lit, z_neg, z_add, z_sub, z_mul, z_lt, z_le, z_eq, z_in, z_cl]; omega
      rw [en] at hP3
      exact hp1 _ _ pl0 h3 (PZ_R hP3 rfl (sm2 (by decide) (by omega) (by decide) (by omega))) (mKeep_trans (mKeep_trans hk1 hk2) hk3)
    · have z1 : evP es i + 2 ≤ evP es (i + 1) := Classical.not_not.mp (fun z => y1 (x1.mpr z))
      rw [if_pos (by omega)] at pl0
      refine t_strandsAdded ?_
      simp (disch := omega) only [↓EVi, ↓EVc, ↓ft_X1_planSwap, ↓reduceIte, ↓EV_obs, ↓EV_obn, ↓EV_ais, ↓EV_ain, ↓EV_ob r0, mdF, mRun, List.mem_cons, List.not_mem_nil, or_false, mtab_eq, Nat.reduceEqDiff, Nat.zero_add, hd1, b02, b12, b20, b10, mset2, b10, b00, not_true_eq_false, not_false_eq_true, true_implies, false_implies, implies_true, and_true, true_and, Nat.le_refl, true_or, or_true, eq_self, List.length_cons, List.length_nil, Nat.reduceAdd, Nat.reduceLT, Nat.reduceLeDiff]
      refine p_put hP1 (by decide) (fun h2 hP2 hk2 => ?_)
      obtain ⟨-, K3, Q3, ⟨u0, -⟩, -⟩ := id hP2
      simp (disch := omega) only [↓EVi, ↓EVc, ↓ft_X1_planSwap, ↓reduceIte, ↓EV_obs, ↓EV_obn, ↓EV_ais, ↓EV_ain, ↓EV_ob u0, mdF, mRun, List.mem_cons, List.not_mem_nil, or_false, mtab_eq, Nat.reduceEqDiff, Nat.zero_add, hd1, mset2, b10, b00, not_true_eq_false, not_false_eq_true, true_implies, false_implies, implies_true, and_true, true_and, Nat.le_refl, true_or, or_true, eq_self, List.length_cons, List.length_nil, Nat.reduceAdd, Nat.reduceLT, Nat.reduceLeDiff]
      refine p_put hP2 (Nat.le_of_ble_eq_true rfl) (fun h3 hP3 hk3 => ?_)
      simp (disch := omega) only [↓EVi, ↓EVc, ↓ft_X1_planSwap, ↓reduceIte, ↓EV_obs, ↓EV_obn, ↓EV_ais, ↓EV_ain, mdF, mRun, List.mem_cons, List.not_mem_nil, or_false, mtab_eq, Nat.reduceEqDiff, Nat.zero_add, hd1, mset2, b10, b00, not_true_eq_false, not_false_eq_true, true_implies, false_implies, implies_true, and_true, true_and, Nat.le_refl, true_or, or_true, eq_self, List.length_cons, List.length_nil, Nat.reduceAdd, Nat.reduceLT, Nat.reduceLeDiff]
      have en : nI (evP es (i + 1)) - 2 = nI (evP es (i + 1) - 2) := by simp (disch := omega) only [z_nI, z_lit, z_neg, z_add, z_sub, z_mul, z_lt, z_le, z_eq, z_in, z_cl]; omega
      rw [en] at hP3
      exact hp1 _ _ pl0 h3 (PZ_R hP3 rfl (sm2 (by decide) (by omega) (by decide) (by omega))) (mKeep_trans (mKeep_trans hk1 hk2) hk3)
  · have ke : K i = 1 := by rw [k0, he]; rfl
    have kg : K (i + 1) = 0 := by rw [k1, hg]; rfl
    rw [he, hg] at pl0
    simp only [subA, stp] at pl0
    simp only [↓reduceIte, Nat.reduceEqDiff, Nat.add_zero] at pl0
    simp (disch := omega) only [↓EVk, ↓w_if_eq, ↓w_an_ite, ↓mEndK, ↓w_retK0, ↓w_fitK, ↓w_dupK, ↓w_dup2K, w_an_back, ↓EVd, ↓ft_X1_planSwap, ↓reduceIte, ↓EV_obs, ↓EV_obn, ↓EV_ais, ↓EV_ain, ↓EV_ob g0, ↓EV_ob p0, ↓EV_ai g1, ↓EV_ai g2, mdF, mRun, List.mem_cons, List.not_mem_nil, or_false, mtab_eq, Nat.reduceEqDiff, Nat.zero_add, t1, ci, vi, c1, v1, ke, kg, q0, q1, b02, b12, b20, b10, hd1, mset2, b10, b00, not_true_eq_false, not_false_eq_true, true_implies, false_implies, implies_true, and_true, true_and, Nat.le_refl, true_or, or_true, eq_self, List.length_cons, List.length_nil, Nat.reduceAdd, Nat.reduceLT, Nat.reduceLeDiff]
    refine p_begin (g := 2) hP rfl (fun h1 hP1 hk1 => ?_)
    obtain ⟨-, K2, Q2, ⟨r0, -⟩, -⟩ := id hP1
    simp (disch := omega) only [↓EVi, ↓EVc, ↓ft_X1_planSwap, ↓reduceIte, ↓EV_obs, ↓EV_obn, ↓EV_ais, ↓EV_ain, ↓EV_ob r0, mdF, mRun, List.mem_cons, List.not_mem_nil, or_false, mtab_eq, Nat.reduceEqDiff, Nat.zero_add, hd1, mset2, b10, b00, not_true_eq_false, not_false_eq_true, true_implies, false_implies, implies_true, and_true, true_and, Nat.le_refl, true_or, or_true, eq_self, List.length_cons, List.length_nil, Nat.reduceAdd, Nat.reduceLT, Nat.reduceLeDiff]
    have x1 : (nI (evP es (i + 1)) < nI (evP es i) + 2) ↔ ¬ evP es i + 2 ≤ evP es (i + 1) := by simp (disch := omega) only [z_nI, z_lit, z_neg, z_add, z_sub, z_mul, z_lt, z_le, z_eq, z_in, z_cl]; omega
    have x2 : (nI (evP es i) < nI (evP es (i + 1)) + 0) ↔ ¬ evP es (i + 1) + 0 ≤ evP es i := by simp (disch := omega) only [z_nI, z_lit, z_neg, z_add, z_sub, z_mul, z_lt, z_le, z_eq, z_in, z_cl]; omega
    refine ⟨fun y1 => ⟨fun y2 => ?_, fun y2 => ?_⟩, fun y1 => ?_⟩
    · refine hp0 ?_ h1 (PZ_A hP1) hk1
      rw [pl0, if_neg (fun z => x1.mp y1 (by omega)), if_neg (fun z => x2.mp y2 (by omega))]
    · have z2 : evP es (i + 1) + 0 ≤ evP es i := Classical.not_not.mp (fun z => y2 (x2.mpr z))
      rw [if_neg (fun z => x1.mp y1 (by omega)), if_pos (by omega)] at pl0
      refine p_put hP1 (by decide) (fun h2 hP2 hk2 => ?_)
      obtain ⟨-, K3, Q3, ⟨u0, -⟩, -⟩ := id hP2
      simp (disch := omega) only [↓EVi, ↓EVc, ↓ft_X1_planSwap, ↓reduceIte, ↓EV_obs, ↓EV_obn, ↓EV_ais, ↓EV_ain, ↓EV_ob u0, mdF, mRun, List.mem_cons, List.not_mem_nil, or_false, mtab_eq, Nat.reduceEqDiff, Nat.zero_add, hd1, mset2, b10, b00, not_true_eq_false, not_false_eq_true, true_implies, false_implies, implies_true, and_true, true_and, Nat.le_refl, true_or, or_true, eq_self, List.length_cons, List.length_nil, Nat.reduceAdd, Nat.reduceLT, Nat.reduceLeDiff]
      refine t_strandsAdded ?_
      simp (disch := omega) only [↓EVi, ↓EVc, ↓ft_X1_planSwap, ↓reduceIte, ↓EV_obs, ↓EV_obn, ↓EV_ais, ↓EV_ain, ↓EV_ob u0, mdF, mRun, List.mem_cons, List.not_mem_nil, or_false, mtab_eq, Nat.reduceEqDiff, Nat.zero_add, hd1, b02, b12, b20, b10, mset2, b10, b00, not_true_eq_false, not_false_eq_true, true_implies, false_implies, implies_true, and_true, true_and, Nat.le_refl, true_or, or_true, eq_self, List.length_cons, List.length_nil, Nat.reduceAdd, Nat.reduceLT, Nat.reduceLeDiff]
      refine p_put hP2 (Nat.le_of_ble_eq_true rfl) (fun h3 hP3 hk3 => ?_)
      simp (disch := omega) only [↓EVi, ↓EVc, ↓ft_X1_planSwap, ↓reduceIte, ↓EV_obs, ↓EV_obn, ↓EV_ais, ↓EV_ain, mdF, mRun, List.mem_cons, List.not_mem_nil, or_false, mtab_eq, Nat.reduceEqDiff, Nat.zero_add, hd1, mset2, b10, b00, not_true_eq_false, not_false_eq_true, true_implies, false_implies, implies_true, and_true, true_and, Nat.le_refl, true_or, or_true, eq_self, List.length_cons, List.length_nil, Nat.reduceAdd, Nat.reduceLT, Nat.reduceLeDiff]
      have en : nI (evP es i) + 2 = nI (evP es i + 2) := by simp (disch := omega) only [z_nI, z_lit, z_neg, z_add, z_sub, z_mul, z_lt, z_le, z_eq, z_in, z_cl]; omega
      rw [en] at hP3
      exact hp1 _ _ pl0 h3 (PZ_R hP3 rfl (sm2 (by decide) (by omega) (by decide) (by omega))) (mKeep_trans (mKeep_trans hk1 hk2) hk3)
    · have z1 : evP es i + 2 ≤ evP es (i + 1) := Classical.not_not.mp (fun z => y1 (x1.mpr z))
      rw [if_pos (by omega)] at pl0
      refine t_strandsAdded ?_
      simp (disch := omega) only [↓EVi, ↓EVc, ↓ft_X1_planSwap, ↓reduceIte, ↓EV_obs, ↓EV_obn, ↓EV_ais, ↓EV_ain, ↓EV_ob r0, mdF, mRun, List.mem_cons, List.not_mem_nil, or_false, mtab_eq, Nat.reduceEqDiff, Nat.zero_add, hd1, b02, b12, b20, b10, mset2, b10, b00, not_true_eq_false, not_false_eq_true, true_implies, false_implies, implies_true, and_true, true_and, Nat.le_refl, true_or, or_true, eq_self, List.length_cons, List.length_nil, Nat.reduceAdd, Nat.reduceLT, Nat.reduceLeDiff]
      refine p_put hP1 (by decide) (fun h2 hP2 hk2 => ?_)
      obtain ⟨-, K3, Q3, ⟨u0, -⟩, -⟩ := id hP2
      simp (disch := omega) only [↓EVi, ↓EVc, ↓ft_X1_planSwap, ↓reduceIte, ↓EV_obs, ↓EV_obn, ↓EV_ais, ↓EV_ain, ↓EV_ob u0, mdF, mRun, List.mem_cons, List.not_mem_nil, or_false, mtab_eq, Nat.reduceEqDiff, Nat.zero_add, hd1, mset2, b10, b00, not_true_eq_false, not_false_eq_true, true_implies, false_implies, implies_true, and_true, true_and, Nat.le_refl, true_or, or_true, eq_self, List.length_cons, List.length_nil, Nat.reduceAdd, Nat.reduceLT, Nat.reduceLeDiff]
      refine p_put hP2 (Nat.le_of_ble_eq_true rfl) (fun h3 hP3 hk3 => ?_)
      simp (disch := omega) only [↓EVi, ↓EVc, ↓ft_X1_planSwap, ↓reduceIte, ↓EV_obs, ↓EV_obn, ↓EV_ais, ↓EV_ain, mdF, mRun, List.mem_cons, List.not_mem_nil, or_false, mtab_eq, Nat.reduceEqDiff, Nat.zero_add, hd1, mset2, b10, b00, not_true_eq_false, not_false_eq_true, true_implies, false_implies, implies_true, and_true, true_and, Nat.le_refl, true_or, or_true, eq_self, List.length_cons, List.length_nil, Nat.reduceAdd, Nat.reduceLT, Nat.reduceLeDiff]
      have en : nI (evP es (i + 1)) - 0 = nI (evP es (i + 1)) := by simp (disch := omega) only [z_nI, z_lit, z_neg, z_add, z_sub, z_mul, z_lt, z_le, z_eq, z_in, z_cl]; omega
      rw [en] at hP3
      exact hp1 _ _ pl0 h3 (PZ_R hP3 rfl (sm2 (by decide) (by omega) (by decide) (by omega))) (mKeep_trans (mKeep_trans hk1 hk2) hk3)
  · have ke : K i = 1 := by rw [k0, he]; rfl
    have kg : K (i + 1) = 1 := by rw [k1, hg]; rfl
    rw [he, hg] at pl0
    simp only [subA, stp] at pl0
    simp only [↓reduceIte, Nat.reduceEqDiff, Nat.add_zero] at pl0
    simp (disch := omega) only [↓EVk, ↓w_if_eq, ↓w_an_ite, ↓mEndK, ↓w_retK0, ↓w_fitK, ↓w_dupK, ↓w_dup2K, w_an_back, ↓EVd, ↓ft_X1_planSwap, ↓reduceIte, ↓EV_obs, ↓EV_obn, ↓EV_ais, ↓EV_ain, ↓EV_ob g0, ↓EV_ob p0, ↓EV_ai g1, ↓EV_ai g2, mdF, mRun, List.mem_cons, List.not_mem_nil, or_false, mtab_eq, Nat.reduceEqDiff, Nat.zero_add, t1, ci, vi, c1, v1, ke, kg, q0, q1, b02, b12, b20, b10, hd1, mset2, b10, b00, not_true_eq_false, not_false_eq_true, true_implies, false_implies, implies_true, and_true, true_and, Nat.le_refl, true_or, or_true, eq_self, List.length_cons, List.length_nil, Nat.reduceAdd, Nat.reduceLT, Nat.reduceLeDiff]
    refine p_begin (g := 2) hP rfl (fun h1 hP1 hk1 => ?_)
    obtain ⟨-, K2, Q2, ⟨r0, -⟩, -⟩ := id hP1
    simp (disch := omega) only [↓EVi, ↓EVc, ↓ft_X1_planSwap, ↓reduceIte, ↓EV_obs, ↓EV_obn, ↓EV_ais, ↓EV_ain, ↓EV_ob r0, mdF, mRun, List.mem_cons, List.not_mem_nil, or_false, mtab_eq, Nat.reduceEqDiff, Nat.zero_add, hd1, mset2, b10, b00, not_true_eq_false, not_false_eq_true, true_implies, false_implies, implies_true, and_true, true_and, Nat.le_refl, true_or, or_true, eq_self, List.length_cons, List.length_nil, Nat.reduceAdd, Nat.reduceLT, Nat.reduceLeDiff]
    have x1 : (nI (evP es (i + 1)) < nI (evP es i) + 2) ↔ ¬ evP es i + 2 ≤ evP es (i + 1) := by simp (disch := omega) only [z_nI, z_lit, z_neg, z_add, z_sub, z_mul, z_lt, z_le, z_eq, z_in, z_cl]; omega
    have x2 : (nI (evP es i) < nI (evP es (i + 1)) + 2) ↔ ¬ evP es (i + 1) + 2 ≤ evP es i := by simp (disch := omega) only [z_nI, z_lit, z_neg, z_add, z_sub, z_mul, z_lt, z_le, z_eq, z_in, z_cl]; omega
    refine ⟨fun y1 => ⟨fun y2 => ?_, fun y2 => ?_⟩, fun y1 => ?_⟩
    · refine hp0 ?_ h1 (PZ_A hP1) hk1
      rw [pl0, if_neg (fun z => x1.mp y1 (by omega)), if_neg (fun z => x2.mp y2 (by omega))]
    · have z2 : evP es (i + 1) + 2 ≤ evP es i := Classical.not_not.mp (fun z => y2 (x2.mpr z))
      rw [if_neg (fun z => x1.mp y1 (by omega)), if_pos (by omega)] at pl0
      refine p_put hP1 (by decide) (fun h2 hP2 hk2 => ?_)
      obtain ⟨-, K3, Q3, ⟨u0, -⟩, -⟩ := id hP2
      simp (disch := omega) only [↓EVi, ↓EVc, ↓ft_X1_planSwap, ↓reduceIte, ↓EV_obs, ↓EV_obn, ↓EV_ais, ↓EV_ain, ↓EV_ob u0, mdF, mRun, List.mem_cons, List.not_mem_nil, or_false, mtab_eq, Nat.reduceEqDiff, Nat.zero_add, hd1, mset2, b10, b00, not_true_eq_false, not_false_eq_true, true_implies, false_implies, implies_true, and_true, true_and, Nat.le_refl, true_or, or_true, eq_self, List.length_cons, List.length_nil, Nat.reduceAdd, Nat.reduceLT, Nat.reduceLeDiff]
      refine t_strandsAdded ?_
      simp (disch := omega) only [↓EVi, ↓EVc, ↓ft_X1_planSwap, ↓reduceIte, ↓EV_obs, ↓EV_obn, ↓EV_ais, ↓EV_ain, ↓EV_ob u0, mdF, mRun, List.mem_cons, List.not_mem_nil, or_false, mtab_eq, Nat.reduceEqDiff, Nat.zero_add, hd1, b02, b12, b20, b10, mset2, b10, b00, not_true_eq_false, not_false_eq_true, true_implies, false_implies, implies_true, and_true, true_and, Nat.le_refl, true_or, or_true, eq_self, List.length_cons, List.length_nil, Nat.reduceAdd, Nat.reduceLT, Nat.reduceLeDiff]
      refine p_put hP2 (Nat.le_of_ble_eq_true rfl) (fun h3 hP3 hk3 => ?_)
      simp (disch := omega) only [↓EVi, ↓EVc, ↓ft_X1_planSwap, ↓reduceIte, ↓EV_obs, ↓EV_obn, ↓EV_ais, ↓EV_ain, mdF, mRun, List.mem_cons, List.not_mem_nil, or_false, mtab_eq, Nat.reduceEqDiff, Nat.zero_add, hd1, mset2, b10, b00, not_true_eq_false, not_false_eq_true, true_implies, false_implies, implies_true, and_true, true_and, Nat.le_refl, true_or, or_true, eq_self, List.length_cons, List.length_nil, Nat.reduceAdd, Nat.reduceLT, Nat.reduceLeDiff]
      have en : nI (evP es i) + 0 = nI (evP es i) := by simp (disch := omega) only [z_nI, z_lit, z_neg, z_add, z_sub, z_mul, z_lt, z_le, z_eq, z_in, z_cl]; omega
      rw [en] at hP3
      exact hp1 _ _ pl0 h3 (PZ_R hP3 rfl (sm2 (by decide) (by omega) (by decide) (by omega))) (mKeep_trans (mKeep_trans hk1 hk2) hk3)
    · have z1 : evP es i + 2 ≤ evP es (i + 1) := Classical.not_not.mp (fun z => y1 (x1.mpr z))
      rw [if_pos (by omega)] at pl0
      refine t_strandsAdded ?_
      simp (disch := omega) only [↓EVi, ↓EVc, ↓ft_X1_planSwap, ↓reduceIte, ↓EV_obs, ↓EV_obn, ↓EV_ais, ↓EV_ain, ↓EV_ob r0, mdF, mRun, List.mem_cons, List.not_mem_nil, or_false, mtab_eq, Nat.reduceEqDiff, Nat.zero_add, hd1, b02, b12, b20, b10, mset2, b10, b00, not_true_eq_false, not_false_eq_true, true_implies, false_implies, implies_true, and_true, true_and, Nat.le_refl, true_or, or_true, eq_self, List.length_cons, List.length_nil, Nat.reduceAdd, Nat.reduceLT, Nat.reduceLeDiff]
      refine p_put hP1 (by decide) (fun h2 hP2 hk2 => ?_)
      obtain ⟨-, K3, Q3, ⟨u0, -⟩, -⟩ := id hP2
      simp (disch := omega) only [↓EVi, ↓EVc, ↓ft_X1_planSwap, ↓reduceIte, ↓EV_obs, ↓EV_obn, ↓EV_ais, ↓EV_ain, ↓EV_ob u0, mdF, mRun, List.mem_cons, List.not_mem_nil, or_false, mtab_eq, Nat.reduceEqDiff, Nat.zero_add, hd1, mset2, b10, b00, not_true_eq_false, not_false_eq_true, true_implies, false_implies, implies_true, and_true, true_and, Nat.le_refl, true_or, or_true, eq_self, List.length_cons, List.length_nil, Nat.reduceAdd, Nat.reduceLT, Nat.reduceLeDiff]
      refine p_put hP2 (Nat.le_of_ble_eq_true rfl) (fun h3 hP3 hk3 => ?_)
      simp (disch := omega) only [↓EVi, ↓EVc, ↓ft_X1_planSwap, ↓reduceIte, ↓EV_obs, ↓EV_obn, ↓EV_ais, ↓EV_ain, mdF, mRun, List.mem_cons, List.not_mem_nil, or_false, mtab_eq, Nat.reduceEqDiff, Nat.zero_add, hd1, mset2, b10, b00, not_true_eq_false, not_false_eq_true, true_implies, false_implies, implies_true, and_true, true_and, Nat.le_refl, true_or, or_true, eq_self, List.length_cons, List.length_nil, Nat.reduceAdd, Nat.reduceLT, Nat.reduceLeDiff]
      have en : nI (evP es (i + 1)) - 0 = nI (evP es (i + 1)) := by simp (disch := omega) only [z_nI, z_lit, z_neg, z_add, z_sub, z_mul, z_lt, z_le, z_eq, z_in, z_cl]; omega
      rw [en] at hP3
      exact hp1 _ _ pl0 h3 (PZ_R hP3 rfl (sm2 (by decide) (by omega) (by decide) (by omega))) (mKeep_trans (mKeep_trans hk1 hk2) hk3)
  · have ke : K i = 1 := by rw [k0, he]; rfl
    have kg : K (i + 1) = 2 := by rw [k1, hg]; rfl
    rw [he, hg] at pl0
    simp only [subA, stp] at pl0
    simp only [↓reduceIte, Nat.reduceEqDiff, Nat.add_zero] at pl0
    simp (disch := omega) only [↓EVk, ↓w_if_eq, ↓w_an_ite, ↓mEndK, ↓w_retK0, ↓w_fitK, ↓w_dupK, ↓w_dup2K, w_an_back, ↓EVd, ↓ft_X1_planSwap, ↓reduceIte, ↓EV_obs, ↓EV_obn, ↓EV_ais, ↓EV_ain, ↓EV_ob g0, ↓EV_ob p0, ↓EV_ai g1, ↓EV_ai g2, mdF, mRun, List.mem_cons, List.not_mem_nil, or_false, mtab_eq, Nat.reduceEqDiff, Nat.zero_add, t1, ci, vi, c1, v1, ke, kg, q0, q1, b02, b12, b20, b10, hd1, mset2, b10, b00, not_true_eq_false, not_false_eq_true, true_implies, false_implies, implies_true, and_true, true_and, Nat.le_refl, true_or, or_true, eq_self, List.length_cons, List.length_nil, Nat.reduceAdd, Nat.reduceLT, Nat.reduceLeDiff]
    refine p_begin (g := 2) hP rfl (fun h1 hP1 hk1 => ?_)
    obtain ⟨-, K2, Q2, ⟨r0, -⟩, -⟩ := id hP1
    simp (disch := omega) only [↓EVi, ↓EVc, ↓ft_X1_planSwap, ↓reduceIte, ↓EV_obs, ↓EV_obn, ↓EV_ais, ↓EV_ain, ↓EV_ob r0, mdF, mRun, List.mem_cons, List.not_mem_nil, or_false, mtab_eq, Nat.reduceEqDiff, Nat.zero_add, hd1, mset2, b10, b00, not_true_eq_false, not_false_eq_true, true_implies, false_implies, implies_true, and_true, true_and, Nat.le_refl, true_or, or_true, eq_self, List.length_cons, List.length_nil, Nat.reduceAdd, Nat.reduceLT, Nat.reduceLeDiff]
    have x1 : (nI (evP es (i + 1)) < nI (evP es i) + 2) ↔ ¬ evP es i + 2 ≤ evP es (i + 1) := by simp (disch := omega) only [z_nI, z_lit, z_neg, z_add, z_sub, z_mul, z_lt, z_le, z_eq, z_in, z_cl]; omega
    have x2 : (nI (evP es i) < nI (evP es (i + 1)) + 2) ↔ ¬ evP es (i + 1) + 2 ≤ evP es i := by simp (disch := omega) only [z_nI, z_lit, z_neg, z_add, z_sub, z_mul, z_lt, z_le, z_eq, z_in, z_cl]; omega
    refine ⟨fun y1 => ⟨fun y2 => ?_, fun y2 => ?_⟩, fun y1 => ?_⟩
    · refine hp0 ?_ h1 (PZ_A hP1) hk1
      rw [pl0, if_neg (fun z => x1.mp y1 (by omega)), if_neg (fun z => x2.mp y2 (by omega))]
    · have z2 : evP es (i + 1) + 2 ≤ evP es i := Classical.not_not.mp (fun z => y2 (x2.mpr z))
      rw [if_neg (fun z => x1.mp y1 (by omega)), if_pos (by omega)] at pl0
      refine p_put hP1 (by decide) (fun h2 hP2 hk2 => ?_)
      obtain ⟨-, K3, Q3, ⟨u0, -⟩, -⟩ := id hP2
      simp (disch := omega) only [↓EVi, ↓EVc, ↓ft_X1_planSwap, ↓reduceIte, ↓EV_obs, ↓EV_obn, ↓EV_ais, ↓EV_ain, ↓EV_ob u0, mdF, mRun, List.mem_cons, List.not_mem_nil, or_false, mtab_eq, Nat.reduceEqDiff, Nat.zero_add, hd1, mset2, b10, b00, not_true_eq_false, not_false_eq_true, true_implies, false_implies, implies_true, and_true, true_and, Nat.le_refl, true_or, or_true, eq_self, List.length_cons, List.length_nil, Nat.reduceAdd, Nat.reduceLT, Nat.reduceLeDiff]
      refine t_strandsAdded ?_
      simp (disch := omega) only [↓EVi, ↓EVc, ↓ft_X1_planSwap, ↓reduceIte, ↓EV_obs, ↓EV_obn, ↓EV_ais, ↓EV_ain, ↓EV_ob u0, mdF, mRun, List.mem_cons, List.not_mem_nil, or_false, mtab_eq, Nat.reduceEqDiff, Nat.zero_add, hd1, b02, b12, b20, b10, mset2, b10, b00, not_true_eq_false, not_false_eq_true, true_implies, false_implies, implies_true, and_true, true_and, Nat.le_refl, true_or, or_true, eq_self, List.length_cons, List.length_nil, Nat.reduceAdd, Nat.reduceLT, Nat.reduceLeDiff]
      refine p_put hP2 (Nat.le_of_ble_eq_true rfl) (fun h3 hP3 hk3 => ?_)
      simp (disch := omega) only [↓EVi, ↓EVc, ↓ft_X1_planSwap, ↓reduceIte, ↓EV_obs, ↓EV_obn, ↓EV_ais, ↓EV_ain, mdF, mRun, List.mem_cons, List.not_mem_nil, or_false, mtab_eq, Nat.reduceEqDiff, Nat.zero_add, hd1, mset2, b10, b00, not_true_eq_false, not_false_eq_true, true_implies, false_implies, implies_true, and_true, true_and, Nat.le_refl, true_or, or_true, eq_self, List.length_cons, List.length_nil, Nat.reduceAdd, Nat.reduceLT, Nat.reduceLeDiff]
      have en : nI (evP es i) + -2 = nI (evP es i - 2) := by simp (disch := omega) only [z_nI, z_lit, z_neg, z_add, z_sub, z_mul, z_lt, z_le, z_eq, z_in, z_cl]; omega
      rw [en] at hP3
      exact hp1 _ _ pl0 h3 (PZ_R hP3 rfl (sm2 (by decide) (by omega) (by decide) (by omega))) (mKeep_trans (mKeep_trans hk1 hk2) hk3)
    · have z1 : evP es i + 2 ≤ evP es (i + 1) := Classical.not_not.mp (fun z => y1 (x1.mpr z))
      rw [if_pos (by omega)] at pl0
      refine t_strandsAdded ?_
      simp (disch := omega) only [↓EVi, ↓EVc, ↓ft_X1_planSwap, ↓reduceIte, ↓EV_obs, ↓EV_obn, ↓EV_ais, ↓EV_ain, ↓EV_ob r0, mdF, mRun, List.mem_cons, List.not_mem_nil, or_false, mtab_eq, Nat.reduceEqDiff, Nat.zero_add, hd1, b02, b12, b20, b10, mset2, b10, b00, not_true_eq_false, not_false_eq_true, true_implies, false_implies, implies_true, and_true, true_and, Nat.le_refl, true_or, or_true, eq_self, List.length_cons, List.length_nil, Nat.reduceAdd, Nat.reduceLT, Nat.reduceLeDiff]
      refine p_put hP1 (by decide) (fun h2 hP2 hk2 => ?_)
      obtain ⟨-, K3, Q3, ⟨u0, -⟩, -⟩ := id hP2
      simp (disch := omega) only [↓EVi, ↓EVc, ↓ft_X1_planSwap, ↓reduceIte, ↓EV_obs, ↓EV_obn, ↓EV_ais, ↓EV_ain, ↓EV_ob u0, mdF, mRun, List.mem_cons, List.not_mem_nil, or_false, mtab_eq, Nat.reduceEqDiff, Nat.zero_add, hd1, mset2, b10, b00, not_true_eq_false, not_false_eq_true, true_implies, false_implies, implies_true, and_true, true_and, Nat.le_refl, true_or, or_true, eq_self, List.length_cons, List.length_nil, Nat.reduceAdd, Nat.reduceLT, Nat.reduceLeDiff]
      refine p_put hP2 (Nat.le_of_ble_eq_true rfl) (fun h3 hP3 hk3 => ?_)
      simp (disch := omega) only [↓EVi, ↓EVc, ↓ft_X1_planSwap, ↓reduceIte, ↓EV_obs, ↓EV_obn, ↓EV_ais, ↓EV_ain, mdF, mRun, List.mem_cons, List.not_mem_nil, or_false, mtab_eq, Nat.reduceEqDiff, Nat.zero_add, hd1, mset2, b10, b00, not_true_eq_false, not_false_eq_true, true_implies, false_implies, implies_true, and_true, true_and, Nat.le_refl, true_or, or_true, eq_self, List.length_cons, List.length_nil, Nat.reduceAdd, Nat.reduceLT, Nat.reduceLeDiff]
      have en : nI (evP es (i + 1)) - 0 = nI (evP es (i + 1)) := by simp (disch := omega) only [z_nI, z_lit, z_neg, z_add, z_sub, z_mul, z_lt, z_le, z_eq, z_in, z_cl]; omega
      rw [en] at hP3
      exact hp1 _ _ pl0 h3 (PZ_R hP3 rfl (sm2 (by decide) (by omega) (by decide) (by omega))) (mKeep_trans (mKeep_trans hk1 hk2) hk3)
  · have ke : K i = 2 := by rw [k0, he]; rfl
    have kg : K (i + 1) = 0 := by rw [k1, hg]; rfl
    rw [he, hg] at pl0
    simp only [subA, stp] at pl0
    simp only [↓reduceIte, Nat.reduceEqDiff, Nat.add_zero] at pl0
    simp (disch := omega) only [↓EVk, ↓w_if_eq, ↓w_an_ite, ↓mEndK, ↓w_retK0, ↓w_fitK, ↓w_dupK, ↓w_dup2K, w_an_back, ↓EVd, ↓ft_X1_planSwap, ↓reduceIte, ↓EV_obs, ↓EV_obn, ↓EV_ais, ↓EV_ain, ↓EV_ob g0, ↓EV_ob p0, ↓EV_ai g1, ↓EV_ai g2, mdF, mRun, List.mem_cons, List.not_mem_nil, or_false, mtab_eq, Nat.reduceEqDiff, Nat.zero_add, t1, ci, vi, c1, v1, ke, kg, q0, q1, b02, b12, b20, b10, hd1, mset2, b10, b00, not_true_eq_false, not_false_eq_true, true_implies, false_implies, implies_true, and_true, true_and, Nat.le_refl, true_or, or_true, eq_self, List.length_cons, List.length_nil, Nat.reduceAdd, Nat.reduceLT, Nat.reduceLeDiff]
    refine p_begin (g := 2) hP rfl (fun h1 hP1 hk1 => ?_)
    obtain ⟨-, K2, Q2, ⟨r0, -⟩, -⟩ := id hP1
    simp (disch := omega) only [↓EVi, ↓EVc, ↓ft_X1_planSwap, ↓reduceIte, ↓EV_obs, ↓EV_obn, ↓EV_ais, ↓EV_ain, ↓EV_ob r0, mdF, mRun, List.mem_cons, List.not_mem_nil, or_false, mtab_eq, Nat.reduceEqDiff, Nat.zero_add, hd1, mset2, b10, b00, not_true_eq_false, not_false_eq_true, true_implies, false_implies, implies_true, and_true, true_and, Nat.le_refl, true_or, or_true, eq_self, List.length_cons, List.length_nil, Nat.reduceAdd, Nat.reduceLT, Nat.reduceLeDiff]
    have x1 : (nI (evP es (i + 1)) < nI (evP es i) + 0) ↔ ¬ evP es i + 0 ≤ evP es (i + 1) := by simp (disch := omega) only [z_nI, z_lit, z_neg, z_add, z_sub, z_mul, z_lt, z_le, z_eq, z_in, z_cl]; omega
    have x2 : (nI (evP es i) < nI (evP es (i + 1)) + 0) ↔ ¬ evP es (i + 1) + 0 ≤ evP es i := by simp (disch := omega) only [z_nI, z_lit, z_neg, z_add, z_sub, z_mul, z_lt, z_le, z_eq, z_in, z_cl]; omega
    refine ⟨fun y1 => ⟨fun y2 => ?_, fun y2 => ?_⟩, fun y1 => ?_⟩
    · refine hp0 ?_ h1 (PZ_A hP1) hk1
      rw [pl0, if_neg (fun z => x1.mp y1 (by omega)), if_neg (fun z => x2.mp y2 (by omega))]
    · have z2 : evP es (i + 1) + 0 ≤ evP es i := Classical.not_not.mp (fun z => y2 (x2.mpr z))
      rw [if_neg (fun z => x1.mp y1 (by omega)), if_pos (by omega)] at pl0
      refine p_put hP1 (by decide) (fun h2 hP2 hk2 => ?_)
      obtain ⟨-, K3, Q3, ⟨u0, -⟩, -⟩ := id hP2
      simp (disch := omega) only [↓EVi, ↓EVc, ↓ft_X1_planSwap, ↓reduceIte, ↓EV_obs, ↓EV_obn, ↓EV_ais, ↓EV_ain, ↓EV_ob u0, mdF, mRun, List.mem_cons, List.not_mem_nil, or_false, mtab_eq, Nat.reduceEqDiff, Nat.zero_add, hd1, mset2, b10, b00, not_true_eq_false, not_false_eq_true, true_implies, false_implies, implies_true, and_true, true_and, Nat.le_refl, true_or, or_true, eq_self, List.length_cons, List.length_nil, Nat.reduceAdd, Nat.reduceLT, Nat.reduceLeDiff]
      refine t_strandsAdded ?_
      simp (disch := omega) only [↓EVi, ↓EVc, ↓ft_X1_planSwap, ↓reduceIte, ↓EV_obs, ↓EV_obn, ↓EV_ais, ↓EV_ain, ↓EV_ob u0, mdF, mRun, List.mem_cons, List.not_mem_nil, or_false, mtab_eq, Nat.reduceEqDiff, Nat.zero_add, hd1, b02, b12, b20, b10, mset2, b10, b00, not_true_eq_false, not_false_eq_true, true_implies, false_implies, implies_true, and_true, true_and, Nat.le_refl, true_or, or_true, eq_self, List.length_cons, List.length_nil, Nat.reduceAdd, Nat.reduceLT, Nat.reduceLeDiff]
      refine p_put hP2 (Nat.le_of_ble_eq_true rfl) (fun h3 hP3 hk3 => ?_)
      simp (disch := omega) only [↓EVi, ↓EVc, ↓ft_X1_planSwap, ↓reduceIte, ↓EV_obs, ↓EV_obn, ↓EV_ais, ↓EV_ain, mdF, mRun, List.mem_cons, List.not_mem_nil, or_false, mtab_eq, Nat.reduceEqDiff, Nat.zero_add, hd1, mset2, b10, b00, not_true_eq_false, not_false_eq_true, true_implies, false_implies, implies_true, and_true, true_and, Nat.le_refl, true_or, or_true, eq_self, List.length_cons, List.length_nil, Nat.reduceAdd, Nat.reduceLT, Nat.reduceLeDiff]
      have en : nI (evP es i) + 2 = nI (evP es i + 2) := by simp (disch := omega) only [z_nI, z_lit, z_neg, z_add, z_sub, z_mul, z_lt, z_le, z_eq, z_in, z_cl]; omega
      rw [en] at hP3
      exact hp1 _ _ pl0 h3 (PZ_R hP3 rfl (sm2 (by decide) (by omega) (by decide) (by omega))) (mKeep_trans (mKeep_trans hk1 hk2) hk3)
    · have z1 : evP es i + 0 ≤ evP es (i + 1) := Classical.not_not.mp (fun z => y1 (x1.mpr z))
      rw [if_pos (by omega)] at pl0
      refine t_strandsAdded ?_
      simp (disch := omega) only [↓EVi, ↓EVc, ↓ft_X1_planSwap, ↓reduceIte, ↓EV_obs, ↓EV_obn, ↓EV_ais, ↓EV_ain, ↓EV_ob r0, mdF, mRun, List.mem_cons, List.not_mem_nil, or_false, mtab_eq, Nat.reduceEqDiff, Nat.zero_add, hd1, b02, b12, b20, b10, mset2, b10, b00, not_true_eq_false, not_false_eq_true, true_implies, false_implies, implies_true, and_true, true_and, Nat.le_refl, true_or, or_true, eq_self, List.length_cons, List.length_nil, Nat.reduceAdd, Nat.reduceLT, Nat.reduceLeDiff]
      refine p_put hP1 (by decide) (fun h2 hP2 hk2 => ?_)
      obtain ⟨-, K3, Q3, ⟨u0, -⟩, -⟩ := id hP2
      simp (disch := omega) only [↓EVi, ↓EVc, ↓ft_X1_planSwap, ↓reduceIte, ↓EV_obs, ↓EV_obn, ↓EV_ais, ↓EV_ain, ↓EV_ob u0, mdF, mRun, List.mem_cons, List.not_mem_nil, or_false, mtab_eq, Nat.reduceEqDiff, Nat.zero_add, hd1, mset2, b10, b00, not_true_eq_false, not_false_eq_true, true_implies, false_implies, implies_true, and_true, true_and, Nat.le_refl, true_or, or_true, eq_self, List.length_cons, List.length_nil, Nat.reduceAdd, Nat.reduceLT, Nat.reduceLeDiff]
      refine p_put hP2 (Nat.le_of_ble_eq_true rfl) (fun h3 hP3 hk3 => ?_)
      simp (disch := omega) only [↓EVi, ↓EVc, ↓ft_X1_planSwap, ↓reduceIte, ↓EV_obs, ↓EV_obn, ↓EV_ais, ↓EV_ain, mdF, mRun, List.mem_cons, List.not_mem_nil, or_false, mtab_eq, Nat.reduceEqDiff, Nat.zero_add, hd1, mset2, b10, b00, not_true_eq_false, not_false_eq_true, true_implies, false_implies, implies_true, and_true, true_and, Nat.le_refl, true_or, or_true, eq_self, List.length_cons, List.length_nil, Nat.reduceAdd, Nat.reduceLT, Nat.reduceLeDiff]
      have en : nI (evP es (i + 1)) - (-2) = nI (evP es (i + 1) + 2) := by simp (disch := omega) only [z_nI, z_lit, z_neg, z_add, z_sub, z_mul, z_lt, z_le, z_eq, z_in, z_cl]; omega
      rw [en] at hP3
      exact hp1 _ _ pl0 h3 (PZ_R hP3 rfl (sm2 (by decide) (by omega) (by decide) (by omega))) (mKeep_trans (mKeep_trans hk1 hk2) hk3)
  · have ke : K i = 2 := by rw [k0, he]; rfl
    have kg : K (i + 1) = 1 := by rw [k1, hg]; rfl
    rw [he, hg] at pl0
    simp only [subA, stp] at pl0
    simp only [↓reduceIte, Nat.reduceEqDiff, Nat.add_zero] at pl0
    simp (disch := omega) only [↓EVk, ↓w_if_eq, ↓w_an_ite, ↓mEndK, ↓w_retK0, ↓w_fitK, ↓w_dupK, ↓w_dup2K, w_an_back, ↓EVd, ↓ft_X1_planSwap, ↓reduceIte, ↓EV_obs, ↓EV_obn, ↓EV_ais, ↓EV_ain, ↓EV_ob g0, ↓EV_ob p0, ↓EV_ai g1, ↓EV_ai g2, mdF, mRun, List.mem_cons, List.not_mem_nil, or_false, mtab_eq, Nat.reduceEqDiff, Nat.zero_add, t1, ci, vi, c1, v1, ke, kg, q0, q1, b02, b12, b20, b10, hd1, mset2, b10, b00, not_true_eq_false, not_false_eq_true, true_implies, false_implies, implies_true, and_true, true_and, Nat.le_refl, true_or, or_true, eq_self, List.length_cons, List.length_nil, Nat.reduceAdd, Nat.reduceLT, Nat.reduceLeDiff]
    refine p_begin (g := 2) hP rfl (fun h1 hP1 hk1 => ?_)
    obtain ⟨-, K2, Q2, ⟨r0, -⟩, -⟩ := id hP1
    simp (disch := omega) only [↓EVi, ↓EVc, ↓ft_X1_planSwap, ↓reduceIte, ↓EV_obs, ↓EV_obn, ↓EV_ais, ↓EV_ain, ↓EV_ob r0, mdF, mRun, List.mem_cons, List.not_mem_nil, or_false, mtab_eq, Nat.reduceEqDiff, Nat.zero_add, hd1, mset2, b10, b00, not_true_eq_false, not_false_eq_true, true_implies, false_implies, implies_true, and_true, true_and, Nat.le_refl, true_or, or_true, eq_self, List.length_cons, List.length_nil, Nat.reduceAdd, Nat.reduceLT, Nat.reduceLeDiff]
    have x1 : (nI (evP es (i + 1)) < nI (evP es i) + 0) ↔ ¬ evP es i + 0 ≤ evP es (i + 1) := by simp (disch := omega) only [z_nI, z_lit, z_neg, z_add, z_sub, z_mul, z_lt, z_le, z_eq, z_in, z_cl]; omega
    have x2 : (nI (evP es i) < nI (evP es (i + 1)) + 2) ↔ ¬ evP es (i + 1) + 2 ≤ evP es i := by simp (disch := omega) only [z_nI, z_lit, z_neg, z_add, z_sub, z_mul, z_lt, z_le, z_eq, z_in, z_cl]; omega
    refine ⟨fun y1 => ⟨fun y2 => ?_, fun y2 => ?_⟩, fun y1 => ?_⟩
    · refine hp0 ?_ h1 (PZ_A hP1) hk1
      rw [pl0, if_neg (fun z => x1.mp y1 (by omega)), if_neg (fun z => x2.mp y2 (by omega))]
    · have z2 : evP es (i + 1) + 2 ≤ evP es i := Classical.not_not.mp (fun z => y2 (x2.mpr z))
      rw [if_neg (fun z => x1.mp y1 (by omega)), if_pos (by omega)] at pl0
      refine p_put hP1 (by decide) (fun h2 hP2 hk2 => ?_)
      obtain ⟨-, K3, Q3, ⟨u0, -⟩, -⟩ := id hP2
      simp (disch := omega) only [↓EVi, ↓EVc, ↓ft_X1_planSwap, ↓reduceIte, ↓EV_obs, ↓EV_obn, ↓EV_ais, ↓EV_ain, ↓EV_ob u0, mdF, mRun, List.mem_cons, List.not_mem_nil, or_false, mtab_eq, Nat.reduceEqDiff, Nat.zero_add, hd1, mset2, b10, b00, not_true_eq_false, not_false_eq_true, true_implies, false_implies, implies_true, and_true, true_and, Nat.le_refl, true_or, or_true, eq_self, List.length_cons, List.length_nil, Nat.reduceAdd, Nat.reduceLT, Nat.reduceLeDiff]
      refine t_strandsAdded ?_
      simp (disch := omega) only [↓EVi, ↓EVc, ↓ft_X1_planSwap, ↓reduceIte, ↓EV_obs, ↓EV_obn, ↓EV_ais, ↓EV_ain, ↓EV_ob u0, mdF, mRun, List.mem_cons, List.not_mem_nil, or_false, mtab_eq, Nat.reduceEqDiff, Nat.zero_add, hd1, b02, b12, b20, b10, mset2, b10, b00, not_true_eq_false, not_false_eq_true, true_implies, false_implies, implies_true, and_true, true_and, Nat.le_refl, true_or, or_true, eq_self, List.length_cons, List.length_nil, Nat.reduceAdd, Nat.reduceLT, Nat.reduceLeDiff]
      refine p_put hP2 (Nat.le_of_ble_eq_true rfl) (fun h3 hP3 hk3 => ?_)
      simp (disch := omega) only [↓EVi, ↓EVc, ↓ft_X1_planSwap, ↓reduceIte, ↓EV_obs, ↓EV_obn, ↓EV_ais, ↓EV_ain, mdF, mRun, List.mem_cons, List.not_mem_nil, or_false, mtab_eq, Nat.reduceEqDiff, Nat.zero_add, hd1, mset2, b10, b00, not_true_eq_false, not_false_eq_true, true_implies, false_implies, implies_true, and_true, true_and, Nat.le_refl, true_or, or_true, eq_self, List.length_cons, List.length_nil, Nat.reduceAdd, Nat.reduceLT, Nat.reduceLeDiff]
      have en : nI (evP es i) + 0 = nI (evP es i) := by simp (disch := omega) only [z_nI, z_lit, z_neg, z_add, z_sub, z_mul, z_lt, z_le, z_eq, z_in, z_cl]; omega
      rw [en] at hP3
      exact hp1 _ _ pl0 h3 (PZ_R hP3 rfl (sm2 (by decide) (by omega) (by decide) (by omega))) (mKeep_trans (mKeep_trans hk1 hk2) hk3)
    · have z1 : evP es i + 0 ≤ evP es (i + 1) := Classical.not_not.mp (fun z => y1 (x1.mpr z))
      rw [if_pos (by omega)] at pl0
      refine t_strandsAdded ?_
      simp (disch := omega) only [↓EVi, ↓EVc, ↓ft_X1_planSwap, ↓reduceIte, ↓EV_obs, ↓EV_obn, ↓EV_ais, ↓EV_ain, ↓EV_ob r0, mdF, mRun, List.mem_cons, List.not_mem_nil, or_false, mtab_eq, Nat.reduceEqDiff, Nat.zero_add, hd1, b02, b12, b20, b10, mset2, b10, b00, not_true_eq_false, not_false_eq_true, true_implies, false_implies, implies_true, and_true, true_and, Nat.le_refl, true_or, or_true, eq_self, List.length_cons, List.length_nil, Nat.reduceAdd, Nat.reduceLT, Nat.reduceLeDiff]
      refine p_put hP1 (by decide) (fun h2 hP2 hk2 => ?_)
      obtain ⟨-, K3, Q3, ⟨u0, -⟩, -⟩ := id hP2
      simp (disch := omega) only [↓EVi, ↓EVc, ↓ft_X1_planSwap, ↓reduceIte, ↓EV_obs, ↓EV_obn, ↓EV_ais, ↓EV_ain, ↓EV_ob u0, mdF, mRun, List.mem_cons, List.not_mem_nil, or_false, mtab_eq, Nat.reduceEqDiff, Nat.zero_add, hd1, mset2, b10, b00, not_true_eq_false, not_false_eq_true, true_implies, false_implies, implies_true, and_true, true_and, Nat.le_refl, true_or, or_true, eq_self, List.length_cons, List.length_nil, Nat.reduceAdd, Nat.reduceLT, Nat.reduceLeDiff]
      refine p_put hP2 (Nat.le_of_ble_eq_true rfl) (fun h3 hP3 hk3 => ?_)
      simp (disch := omega) only [↓EVi, ↓EVc, ↓ft_X1_planSwap, ↓reduceIte, ↓EV_obs, ↓EV_obn, ↓EV_ais, ↓EV_ain, mdF, mRun, List.mem_cons, List.not_mem_nil, or_false, mtab_eq, Nat.reduceEqDiff, Nat.zero_add, hd1, mset2, b10, b00, not_true_eq_false, not_false_eq_true, true_implies, false_implies, implies_true, and_true, true_and, Nat.le_refl, true_or, or_true, eq_self, List.length_cons, List.length_nil, Nat.reduceAdd, Nat.reduceLT, Nat.reduceLeDiff]
      have en : nI (evP es (i + 1)) - (-2) = nI (evP es (i + 1) + 2) := by simp (disch := omega) only [z_nI, z_lit, z_neg, z_add, z_sub, z_mul, z_lt, z_le, z_eq, z_in, z_cl]; omega
      rw [en] at hP3
      exact hp1 _ _ pl0 h3 (PZ_R hP3 rfl (sm2 (by decide) (by omega) (by decide) (by omega))) (mKeep_trans (mKeep_trans hk1 hk2) hk3)
  · have ke : K i = 2 := by rw [k0, he]; rfl
    have kg : K (i + 1) = 2 := by rw [k1, hg]; rfl
    rw [he, hg] at pl0
    simp only [subA, stp] at pl0
    simp only [↓reduceIte, Nat.reduceEqDiff, Nat.add_zero] at pl0
    simp (disch := omega) only [↓EVk, ↓w_if_eq, ↓w_an_ite, ↓mEndK, ↓w_retK0, ↓w_fitK, ↓w_dupK, ↓w_dup2K, w_an_back, ↓EVd, ↓ft_X1_planSwap, ↓reduceIte, ↓EV_obs, ↓EV_obn, ↓EV_ais, ↓EV_ain, ↓EV_ob g0, ↓EV_ob p0, ↓EV_ai g1, ↓EV_ai g2, mdF, mRun, List.mem_cons, List.not_mem_nil, or_false, mtab_eq, Nat.reduceEqDiff, Nat.zero_add, t1, ci, vi, c1, v1, ke, kg, q0, q1, b02, b12, b20, b10, hd1, mset2, b10, b00, not_true_eq_false, not_false_eq_true, true_implies, false_implies, implies_true, and_true, true_and, Nat.le_refl, true_or, or_true, eq_self, List.length_cons, List.length_nil, Nat.reduceAdd, Nat.reduceLT, Nat.reduceLeDiff]
    refine p_begin (g := 2) hP rfl (fun h1 hP1 hk1 => ?_)
    obtain ⟨-, K2, Q2, ⟨r0, -⟩, -⟩ := id hP1
    simp (disch := omega) only [↓EVi, ↓EVc, ↓ft_X1_planSwap, ↓reduceIte, ↓EV_obs, ↓EV_obn, ↓EV_ais, ↓EV_ain, ↓EV_ob r0, mdF, mRun, List.mem_cons, List.not_mem_nil, or_false, mtab_eq, Nat.reduceEqDiff, Nat.zero_add, hd1, mset2, b10, b00, not_true_eq_false, not_false_eq_true, true_implies, false_implies, implies_true, and_true, true_and, Nat.le_refl, true_or, or_true, eq_self, List.length_cons, List.length_nil, Nat.reduceAdd, Nat.reduceLT, Nat.reduceLeDiff]
    have x1 : (nI (evP es (i + 1)) < nI (evP es i) + 0) ↔ ¬ evP es i + 0 ≤ evP es (i + 1) := by simp (disch := omega) only [z_nI, z_lit, z_neg, z_add, z_sub, z_mul, z_lt, z_le, z_eq, z_in, z_cl]; omega
    have x2 : (nI (evP es i) < nI (evP es (i + 1)) + 2) ↔ ¬ evP es (i + 1) + 2 ≤ evP es i := by simp (disch := omega) only [z_nI, z_lit, z_neg, z_add, z_sub, z_mul, z_lt, z_le, z_eq, z_in, z_cl]; omega
    refine ⟨fun y1 => ⟨fun y2 => ?_, fun y2 => ?_⟩, fun y1 => ?_⟩
    · refine hp0 ?_ h1 (PZ_A hP1) hk1
      rw [pl0, if_neg (fun z => x1.mp y1 (by omega)), if_neg (fun z => x2.mp y2 (by omega))]
    · have z2 : evP es (i + 1) + 2 ≤ evP es i := Classical.not_not.mp (fun z => y2 (x2.mpr z))
      rw [if_neg (fun z => x1.mp y1 (by omega)), if_pos (by omega)] at pl0
      refine p_put hP1 (by decide) (fun h2 hP2 hk2 => ?_)
      obtain ⟨-, K3, Q3, ⟨u0, -⟩, -⟩ := id hP2
      simp (disch := omega) only [↓EVi, ↓EVc, ↓ft_X1_planSwap, ↓reduceIte, ↓EV_obs, ↓EV_obn, ↓EV_ais, ↓EV_ain, ↓EV_ob u0, mdF, mRun, List.mem_cons, List.not_mem_nil, or_false, mtab_eq, Nat.reduceEqDiff, Nat.zero_add, hd1, mset2, b10, b00, not_true_eq_false, not_false_eq_true, true_implies, false_implies, implies_true, and_true, true_and, Nat.le_refl, true_or, or_true, eq_self, List.length_cons, List.length_nil, Nat.reduceAdd, Nat.reduceLT, Nat.reduceLeDiff]
      refine t_strandsAdded ?_
      simp (disch := omega) only [↓EVi, ↓EVc, ↓ft_X1_planSwap, ↓reduceIte, ↓EV_obs, ↓EV_obn, ↓EV_ais, ↓EV_ain, ↓EV_ob u0, mdF, mRun, List.mem_cons, List.not_mem_nil, or_false, mtab_eq, Nat.reduceEqDiff, Nat.zero_add, hd1, b02, b12, b20, b10, mset2, b10, b00, not_true_eq_false, not_false_eq_true, true_implies, false_implies, implies_true, and_true, true_and, Nat.le_refl, true_or, or_true, eq_self, List.length_cons, List.length_nil, Nat.reduceAdd, Nat.reduceLT, Nat.reduceLeDiff]
      refine p_put hP2 (Nat.le_of_ble_eq_true rfl) (fun h3 hP3 hk3 => ?_)
      simp (disch := omega) only [↓EVi, ↓EVc, ↓ft_X1_planSwap, ↓reduceIte, ↓EV_obs, ↓EV_obn, ↓EV_ais, ↓EV_ain, mdF, mRun, List.mem_cons, List.not_mem_nil, or_false, mtab_eq, Nat.reduceEqDiff, Nat.zero_add, hd1, mset2, b10, b00, not_true_eq_false, not_false_eq_true, true_implies, false_implies, implies_true, and_true, true_and, Nat.le_refl, true_or, or_true, eq_self, List.length_cons, List.length_nil, Nat.reduceAdd, Nat.reduceLT, Nat.reduceLeDiff]
      have en : nI (evP es i) + -2 = nI (evP es i - 2) := by simp (disch := omega) only [z_nI, z_lit, z_neg, z_add, z_sub, z_mul, z_lt, z_le, z_eq, z_in, z_cl]; omega
      rw [en] at hP3
      exact hp1 _ _ pl0 h3 (PZ_R hP3 rfl (sm2 (by decide) (by omega) (by decide) (by omega))) (mKeep_trans (mKeep_trans hk1 hk2) hk3)
    · have z1 : evP es i + 0 ≤ evP es (i + 1) := Classical.not_not.mp (fun z => y1 (x1.mpr z))
      rw [if_pos (by omega)] at pl0
      refine t_strandsAdded ?_
      simp (disch := omega) only [↓EVi, ↓EVc, ↓ft_X1_planSwap, ↓reduceIte, ↓EV_obs, ↓EV_obn, ↓EV_ais, ↓EV_ain, ↓EV_ob r0, mdF, mRun, List.mem_cons, List.not_mem_nil, or_false, mtab_eq, Nat.reduceEqDiff, Nat.zero_add, hd1, b02, b12, b20, b10, mset2, b10, b00, not_true_eq_false, not_false_eq_true, true_implies, false_implies, implies_true, and_true, true_and, Nat.le_refl, true_or, or_true, eq_self, List.length_cons, List.length_nil, Nat.reduceAdd, Nat.reduceLT, Nat.reduceLeDiff]
      refine p_put hP1 (by decide) (fun h2 hP2 hk2 => ?_)
      obtain ⟨-, K3, Q3, ⟨u0, -⟩, -⟩ := id hP2
      simp (disch := omega) only [↓EVi, ↓EVc, ↓ft_X1_planSwap, ↓reduceIte, ↓EV_obs, ↓EV_obn, ↓EV_ais, ↓EV_ain, ↓EV_ob u0, mdF, mRun, List.mem_cons, List.not_mem_nil, or_false, mtab_eq, Nat.reduceEqDiff, Nat.zero_add, hd1, mset2, b10, b00, not_true_eq_false, not_false_eq_true, true_implies, false_implies, implies_true, and_true, true_and, Nat.le_refl, true_or, or_true, eq_self, List.length_cons, List.length_nil, Nat.reduceAdd, Nat.reduceLT, Nat.reduceLeDiff]
      refine p_put hP2 (Nat.le_of_ble_eq_true rfl) (fun h3 hP3 hk3 => ?_)
      simp (disch := omega) only [↓EVi, ↓EVc, ↓ft_X1_planSwap, ↓reduceIte, ↓EV_obs, ↓EV_obn, ↓EV_ais, ↓EV_ain, mdF, mRun, List.mem_cons, List.not_mem_nil, or_false, mtab_eq, Nat.reduceEqDiff, Nat.zero_add, hd1, mset2, b10, b00, not_true_eq_false, not_false_eq_true, true_implies, false_implies, implies_true, and_true, true_and, Nat.le_refl, true_or, or_true, eq_self, List.length_cons, List.length_nil, Nat.reduceAdd, Nat.reduceLT, Nat.reduceLeDiff]
      have en : nI (evP es (i + 1)) - (-2) = nI (evP es (i + 1) + 2) := by simp (disch := omega) only [z_nI, z_lit, z_neg, z_add, z_sub, z_mul, z_lt, z_le, z_eq, z_in, z_cl]; omega
      rw [en] at hP3
      exact hp1 _ _ pl0 h3 (PZ_R hP3 rfl (sm2 (by decide) (by omega) (by decide) (by omega))) (mKeep_trans (mKeep_trans hk1 hk2) hk3)
end PAT
