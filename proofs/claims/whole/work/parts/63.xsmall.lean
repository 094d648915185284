/-! the class: fronts told and kept -/
section XS
variable {G : mG} {d N B : Nat} {S : AS} {h : mH} {post : Option Value → mH → Prop}
theorem mKeep_in {h h' : mH} {a b c d : Nat} (hk : mKeep h h' a b) (h1 : c ≤ a) (h2 : b ≤ d) : mKeep h h' c d := fun q hq => hk q (by omega)
set_option maxRecDepth 10000 in
theorem x_isFront {f : Int32} (hX : XR h G B S) (hp : post (some (.int (if isF S f then 1 else 0))) h) : MC G MX6_isFront d 0 0 [.ref B, .int f] h N post := by
  have h0 := hX.1
  refine MC.of (L0 := [some (.ref B), some (.int f)]) gd_X6_isFront (Nat.le_of_ble_eq_true rfl) rfl (MW.run gd_X6_isFront [] 20 ?_)
  simp (disch := omega) only [↓EVi, ↓EVc, ↓ft_X6_isFront, ↓reduceIte, ↓EV_obs, ↓EV_obn, ↓EV_ais, ↓EV_ain, ↓EV_ob h0, mdF, mRun, List.mem_cons, List.not_mem_nil, or_false, mtab_eq, Nat.reduceEqDiff, Nat.zero_add, xO, mset2, b10, b00, not_true_eq_false, not_false_eq_true, true_implies, false_implies, implies_true, and_true, true_and, Nat.le_refl, true_or, or_true, eq_self, List.length_cons, List.length_nil, Nat.reduceAdd, Nat.reduceLT, Nat.reduceLeDiff]
  by_cases c1 : f < 0
  · have c2 : ¬ isF S f := fun z => absurd c1 (by rw [Int32.not_lt]; exact z.1)
    rw [if_neg c2] at hp
    simp only [c1, not_true_eq_false, true_implies, false_implies, and_true]
    exact hp
  · simp only [c1, not_false_eq_true, true_implies, false_implies, true_and]
    refine ⟨fun z => ?_, fun z => ?_⟩
    · rw [if_neg (fun y => absurd y.2 (by rw [Int32.not_lt]; exact z))] at hp
      exact hp
    · rw [if_pos ⟨by rw [← Int32.not_lt]; exact c1, by rw [← Int32.not_le]; exact z⟩] at hp
      exact hp
set_option maxRecDepth 10000 in
theorem x_isEvent {f i : Int32} (hd : 1 ≤ d) (hI : SInv S) (hX : XR h G B S) (hp : post (some (.int (if isF S f ∧ (0 ≤ i ∧ i < nI (fr S f).length) then 1 else 0))) h) : MC G MX6_isEvent d 0 0 [.ref B, .int f, .int i] h N post := by
  have h0 := hX.1
  have h8 := hI.1
  have hfa := hX.2.2.2.1
  refine MC.of (L0 := [some (.ref B), some (.int f), some (.int i)]) gd_X6_isEvent (Nat.le_of_ble_eq_true rfl) rfl (MW.run gd_X6_isEvent [] 30 ?_)
  simp (disch := omega) only [↓EVi, ↓EVc, ↓ft_X6_isEvent, ↓reduceIte, ↓EV_obs, ↓EV_obn, ↓EV_ais, ↓EV_ain, ↓EV_ob h0, mdF, mRun, List.mem_cons, List.not_mem_nil, or_false, mtab_eq, Nat.reduceEqDiff, Nat.zero_add, xO, hd, mset2, b10, b00, not_true_eq_false, not_false_eq_true, true_implies, false_implies, implies_true, and_true, true_and, Nat.le_refl, true_or, or_true, eq_self, List.length_cons, List.length_nil, Nat.reduceAdd, Nat.reduceLT, Nat.reduceLeDiff]
  refine x_isFront hX ?_
  rcases isF_c S f hI with c | ⟨q, hq, rfl, c, hfr⟩
  · rw [if_neg (fun z => c z.1)] at hp
    rw [if_neg c]
    simp (disch := omega) only [↓EVi, ↓EVc, ↓ft_X6_isEvent, ↓reduceIte, ↓EV_obs, ↓EV_obn, ↓EV_ais, ↓EV_ain, ↓EV_ob h0, mdF, mRun, List.mem_cons, List.not_mem_nil, or_false, mtab_eq, Nat.reduceEqDiff, Nat.zero_add, xO, hd, mset2, b10, b00, not_true_eq_false, not_false_eq_true, true_implies, false_implies, implies_true, and_true, true_and, Nat.le_refl, true_or, or_true, eq_self, List.length_cons, List.length_nil, Nat.reduceAdd, Nat.reduceLT, Nat.reduceLeDiff]
    exact hp
  rw [if_pos c]
  have hcf : (nI q).toNatClampNeg = q := nI_clamp (by omega)
  have vq : vp_in (nI q) 8 := vp_in_nI (by omega) (by decide)
  obtain ⟨hv, K, P, A, ⟨g0, g1, g2, g3⟩, hKP, hA⟩ := hX.2.2.2.2.2.2.2.2.2.2 q hq
  have g0' : h (xF B (nI q).toNatClampNeg) = some (.inr (0, [.ref (xF B q + 1), .ref (xF B q + 2), .ref (xF B q + 3), .int (nI (S.1.getD q []).length), .int (nI (crs (S.1.getD q [])))])) := by rw [hcf]; exact g0
  rw [hfr] at hp
  simp (disch := omega) only [↓EVi, ↓EVc, ↓ft_X6_isEvent, ↓reduceIte, ↓EV_obs, ↓EV_obn, ↓EV_ais, ↓EV_ain, ↓EV_ob h0, ↓EV_ob g0', ↓EV_ar hfa, ↓EV_arn, mdF, mRun, List.mem_cons, List.not_mem_nil, or_false, mtab_eq, Nat.reduceEqDiff, Nat.zero_add, xO, hd, vq, mset2, b10, b00, not_true_eq_false, not_false_eq_true, true_implies, false_implies, implies_true, and_true, true_and, Nat.le_refl, true_or, or_true, eq_self, List.length_cons, List.length_nil, Nat.reduceAdd, Nat.reduceLT, Nat.reduceLeDiff]
  by_cases c1 : i < 0
  · rw [if_neg (fun z => absurd c1 (by rw [Int32.not_lt]; exact z.2.1))] at hp
    simp only [c1, not_true_eq_false, true_implies, false_implies, and_true]
    exact hp
  · simp only [c1, not_false_eq_true, true_implies, false_implies, true_and]
    refine ⟨fun z => ?_, fun z => ?_⟩
    · rw [if_neg (fun y => absurd y.2.2 (by rw [Int32.not_lt]; exact z))] at hp
      exact hp
    · rw [if_pos ⟨c, by rw [← Int32.not_lt]; exact c1, by rw [← Int32.not_le]; exact z⟩] at hp
      exact hp
set_option maxRecDepth 10000 in
theorem X_fault (hX : XR h G B S) (hp : ∀ h', XR h' G B (aFault S).2 → mKeep h h' B (B + 136) → post (some (.int (aFault S).1)) h') : MC G MX6_fault d 0 0 [.ref B] h N post := by
  have h0 := hX.1
  refine MC.of (L0 := [some (.ref B)]) gd_X6_fault (Nat.le_of_ble_eq_true rfl) rfl (MW.run gd_X6_fault [] 10 ?_)
  simp (disch := omega) only [↓EVi, ↓EVc, ↓ft_X6_fault, ↓reduceIte, ↓EV_obs, ↓EV_obn, ↓EV_ais, ↓EV_ain, ↓EV_ob h0, mdF, mRun, List.mem_cons, List.not_mem_nil, or_false, mtab_eq, Nat.reduceEqDiff, Nat.zero_add, xO, mset2, b10, b00, not_true_eq_false, not_false_eq_true, true_implies, false_implies, implies_true, and_true, true_and, Nat.le_refl, true_or, or_true, eq_self, List.length_cons, List.length_nil, Nat.reduceAdd, Nat.reduceLT, Nat.reduceLeDiff]
  exact hp h hX mKeep_rfl
set_option maxRecDepth 10000 in
theorem X_drop (hI : SInv S) (hX : XR h G B S) (hp : ∀ h', XR h' G B (aDrop S).2 → mKeep h h' B (B + 136) → post (some (.int (aDrop S).1)) h') : MC G MX6_drop d 0 0 [.ref B] h N post := by
  have h0 := hX.1
  have h8 := hI.1
  refine MC.of (L0 := [some (.ref B)]) gd_X6_drop (Nat.le_of_ble_eq_true rfl) rfl (MW.run gd_X6_drop [] 20 ?_)
  unfold aDrop at hp
  have e0 : (nI S.1.length = 0) ↔ S.1.length = 0 := nI_eq (b := 0) (by omega) (by omega)
  simp (disch := omega) only [↓EVi, ↓EVc, ↓ft_X6_drop, ↓reduceIte, ↓EV_obs, ↓EV_obn, ↓EV_ais, ↓EV_ain, ↓EV_ob h0, mdF, mRun, List.mem_cons, List.not_mem_nil, or_false, mtab_eq, Nat.reduceEqDiff, Nat.zero_add, xO, mset2, b10, b00, not_true_eq_false, not_false_eq_true, true_implies, false_implies, implies_true, and_true, true_and, Nat.le_refl, true_or, or_true, eq_self, List.length_cons, List.length_nil, Nat.reduceAdd, Nat.reduceLT, Nat.reduceLeDiff]
  refine ⟨fun z => ?_, fun z => ?_⟩
  · have z' : ¬ S.1.length = 0 := fun y => z (e0.mpr y)
    rw [if_neg z'] at hp
    have en : nI S.1.length - 1 = nI (S.1.length - 1) := pk_sub (b := 1) (by omega)
    rw [en]
    exact hp _ (XR_less hX (by omega) (fun q hq => mset_ne (by omega)) mset_same) (fun q hq => mset_ne (by omega))
  · rw [if_pos (e0.mp (Classical.not_not.mp z))] at hp
    exact hp h hX mKeep_rfl
set_option maxRecDepth 10000 in
theorem X_count {k : Int32} (hI : SInv S) (hX : XR h G B S) (hp : ∀ h', XR h' G B (aCount k S).2 → mKeep h h' B (B + 136) → post (some (.int (aCount k S).1)) h') : MC G MX6_count d 0 0 [.ref B, .int k] h N post := by
  replace hp := hp h hX mKeep_rfl
  have h0 := hX.1
  have hsa := hX.2.2.1
  obtain ⟨Bt, p, kk, t, x, ⟨t0, t1⟩, -⟩ := hX.2.1
  obtain ⟨C, s0, s1, -⟩ := hX.2.2.2.2.2.2.2.2.1 0 (by decide)
  have hl := (hI.2.2.2.2.2 0 (by decide)).1
  have D := MW.dec (e := (.tableswitch 68 0 2 #[27, 32, 60], 28, 0, 0, 0, 0, 0)) (pc := 1) gd_X6_count rfl
  have z0 : Int32.toNatClampNeg 0 = 0 := rfl
  have vz : vp_in 0 4 := by unfold vp_in; decide
  have s0' : h (xS B (Int32.toNatClampNeg 0)) = some (.inr (2, [.ref (xS B 0 + 1), .int (laneC (S.2.2.2 0).1), .int (nI (S.2.2.2 0).2.1)])) := s0
  unfold aCount at hp
  refine MC.of (L0 := [some (.ref B), some (.int k)]) gd_X6_count (Nat.le_of_ble_eq_true rfl) rfl (MW.run gd_X6_count [1] 10 ?_)
  simp (disch := omega) only [↓EVi, ↓EVc, ↓ft_X6_count, ↓reduceIte, ↓EV_obs, ↓EV_obn, ↓EV_ais, ↓EV_ain, mdF, mRun, List.mem_cons, List.not_mem_nil, or_false, mtab_eq, Nat.reduceEqDiff, Nat.zero_add, mset2, b10, b00, not_true_eq_false, not_false_eq_true, true_implies, false_implies, implies_true, and_true, true_and, Nat.le_refl, true_or, or_true, eq_self, List.length_cons, List.length_nil, Nat.reduceAdd, Nat.reduceLT, Nat.reduceLeDiff]
  by_cases k0 : k = 0
  · subst k0
    rw [if_pos rfl] at hp
    refine MW.tsw0 (q := 0) (tgt := 28) (off := 27) D (by decide) (by decide) rfl (by decide) (MW.run gd_X6_count [] 10 ?_)
    simp (disch := omega) only [↓EVi, ↓EVc, ↓ft_X6_count, ↓reduceIte, ↓EV_obs, ↓EV_obn, ↓EV_ais, ↓EV_ain, ↓EV_ob h0, mdF, mRun, List.mem_cons, List.not_mem_nil, or_false, mtab_eq, Nat.reduceEqDiff, Nat.zero_add, xO, mset2, b10, b00, not_true_eq_false, not_false_eq_true, true_implies, false_implies, implies_true, and_true, true_and, Nat.le_refl, true_or, or_true, eq_self, List.length_cons, List.length_nil, Nat.reduceAdd, Nat.reduceLT, Nat.reduceLeDiff]
    exact hp
  by_cases k1 : k = 1
  · subst k1
    rw [if_neg (by decide), if_pos rfl] at hp
    refine MW.tsw0 (q := 1) (tgt := 33) (off := 32) D (by decide) (by decide) rfl (by decide) (MW.run gd_X6_count [] 20 ?_)
    simp (disch := omega) only [↓EVi, ↓EVc, ↓ft_X6_count, ↓reduceIte, ↓EV_obs, ↓EV_obn, ↓EV_ais, ↓EV_ain, ↓EV_ob h0, ↓EV_ob s0', ↓EV_ar hsa, ↓EV_arn, mdF, mRun, List.mem_cons, List.not_mem_nil, or_false, mtab_eq, Nat.reduceEqDiff, Nat.zero_add, xO, vz, mset2, b10, b00, not_true_eq_false, not_false_eq_true, true_implies, false_implies, implies_true, and_true, true_and, Nat.le_refl, true_or, or_true, eq_self, List.length_cons, List.length_nil, Nat.reduceAdd, Nat.reduceLT, Nat.reduceLeDiff]
    unfold laneC
    by_cases c : (S.2.2.2 0).1 = -4
    · rw [if_pos c] at hp
      simp only [if_pos c, not_true_eq_false, not_false_eq_true, true_implies, false_implies, true_and, and_true]
      exact hp
    · rw [if_neg c] at hp
      have n1 : ¬ (S.2.2.2 0).1 = -1 := by
        rcases hl with e | e | e | e <;> rw [e] <;> decide
      simp only [if_neg c, n1, not_true_eq_false, not_false_eq_true, true_implies, false_implies, true_and, and_true]
      exact hp
  by_cases k2 : k = 2
  · subst k2
    rw [if_neg (by decide), if_neg (by decide), if_pos rfl] at hp
    refine MW.tsw0 (q := 2) (tgt := 61) (off := 60) D (by decide) (by decide) rfl (by decide) (MW.run gd_X6_count [] 10 ?_)
    simp (disch := omega) only [↓EVi, ↓EVc, ↓ft_X6_count, ↓reduceIte, ↓EV_obs, ↓EV_obn, ↓EV_ais, ↓EV_ain, ↓EV_ob h0, ↓EV_ob t0, mdF, mRun, List.mem_cons, List.not_mem_nil, or_false, mtab_eq, Nat.reduceEqDiff, Nat.zero_add, xO, mset2, b10, b00, not_true_eq_false, not_false_eq_true, true_implies, false_implies, implies_true, and_true, true_and, Nat.le_refl, true_or, or_true, eq_self, List.length_cons, List.length_nil, Nat.reduceAdd, Nat.reduceLT, Nat.reduceLeDiff]
    exact hp
  rw [if_neg k0, if_neg k1, if_neg k2] at hp
  refine MW.tswOut (tgt := 69) D ?_ (by decide) (MW.run gd_X6_count [] 10 ?_)
  · obtain ⟨z, z1, z2, rfl⟩ := z_of k
    rw [z_toInt ⟨z1, z2⟩]
    simp (disch := omega) only [z_nI, z_lit, z_neg, z_add, z_sub, z_mul, z_lt, z_le, z_eq, z_in, z_cl] at k0 k1 k2
    omega
  · simp (disch := omega) only [↓EVi, ↓EVc, ↓ft_X6_count, ↓reduceIte, ↓EV_obs, ↓EV_obn, ↓EV_ais, ↓EV_ain, mdF, mRun, List.mem_cons, List.not_mem_nil, or_false, mtab_eq, Nat.reduceEqDiff, Nat.zero_add, mset2, b10, b00, not_true_eq_false, not_false_eq_true, true_implies, false_implies, implies_true, and_true, true_and, Nat.le_refl, true_or, or_true, eq_self, List.length_cons, List.length_nil, Nat.reduceAdd, Nat.reduceLT, Nat.reduceLeDiff]
    exact hp
set_option maxRecDepth 10000 in
theorem X_end {n : Int32} (hI : SInv S) (hX : XR h G B S) (hp : ∀ h', XR h' G B (aEnd n S).2 → mKeep h h' B (B + 136) → post (some (.int (aEnd n S).1)) h') : MC G MX6_end d 0 0 [.ref B, .int n] h N post := by
  have h0 := hX.1
  have h120 := hI.2.2.1
  obtain ⟨Bt, p, kk, t, x, ⟨t0, t1⟩, t2⟩ := hX.2.1
  unfold aEnd at hp
  refine MC.of (L0 := [some (.ref B), some (.int n), none]) gd_X6_end (Nat.le_of_ble_eq_true rfl) rfl (MW.run gd_X6_end [] 40 ?_)
  simp (disch := omega) only [↓EVi, ↓EVc, ↓ft_X6_end, ↓reduceIte, ↓EV_obs, ↓EV_obn, ↓EV_ais, ↓EV_ain, ↓EV_ob h0, ↓EV_ob t0, mdF, mRun, List.mem_cons, List.not_mem_nil, or_false, mtab_eq, Nat.reduceEqDiff, Nat.zero_add, xO, mset2, b10, b00, not_true_eq_false, not_false_eq_true, true_implies, false_implies, implies_true, and_true, true_and, Nat.le_refl, true_or, or_true, eq_self, List.length_cons, List.length_nil, Nat.reduceAdd, Nat.reduceLT, Nat.reduceLeDiff]
  by_cases c1 : n < 0
  · rw [if_neg (fun z => absurd c1 (by rw [Int32.not_lt]; exact z.1))] at hp
    simp only [c1, not_true_eq_false, true_implies, false_implies, and_true]
    exact hp h hX mKeep_rfl
  simp only [c1, not_false_eq_true, true_implies, false_implies, true_and]
  refine ⟨fun z => ?_, fun z => ?_⟩
  · rw [if_pos ⟨by rw [← Int32.not_lt]; exact c1, z⟩] at hp
    obtain ⟨q, hq, rfl⟩ := nI_of c1
    have hq2 : q ≤ S.2.1.length := (nI_leI hq (by omega)).mp z
    rw [nI_clamp hq] at hp
    have hlen : (S.2.1.take q).length = q := by rw [List.length_take]; omega
    have key : ∀ h2, h2 = mset h (B + 1) (.inr (4, [.ref (B + 1 + 1), .int (nI q), .int p, .int kk, .int t, .int x])) → post (some (.int (nI S.2.1.length))) h2 := by
      intro h2 e
      have hk2 : mKeep h h2 (B + 1) (B + 1) := fun y hy => by rw [e]; exact mset_ne (by omega)
      refine hp h2 (XR_tape hX (mKeep_in hk2 (Nat.le_refl _) (by omega)) ⟨Bt, p, kk, t, x, ⟨by rw [e, mset_same, hlen], by rw [hk2 _ (by omega)]; exact t1⟩, fun i hi => ?_⟩) (mKeep_in hk2 (by omega) (by omega))
      rw [hlen] at hi
      rw [getD_set_l (x := 0) hi hq2]
      exact t2 i (by omega)
    exact key _ rfl
  · rw [if_neg (fun y => z y.2)] at hp
    exact hp h hX mKeep_rfl
set_option maxRecDepth 10000 in
theorem x_keepDraft {es : List Ev} (hd : 2 ≤ d) (hI : SInv S) (hX : XR h G B S) (hF : FrontR h G (B + 5) es)
    (hp0 : S.1.length = 8 → post (some (.int (-3))) h)
    (hp1 : ¬ S.1.length = 8 → ∀ h', XR h' G B (S.1 ++ [es], S.2) → mKeep h h' B (B + 136) → post (some (.int (nI S.1.length))) h') : MC G MX6_keepDraft d 0 0 [.ref B] h N post := by
  have h0 := hX.1
  have h8 := hI.1
  have hd1 : 1 ≤ d := by omega
  have hfa := hX.2.2.2.1
  refine MC.of (L0 := [some (.ref B)]) gd_X6_keepDraft (Nat.le_of_ble_eq_true rfl) rfl (MW.run gd_X6_keepDraft [] 40 ?_)
  have e8 : (nI S.1.length < 8) ↔ ¬ S.1.length = 8 := by simp (disch := omega) only [z_nI, z_lit, z_neg, z_add, z_sub, z_mul, z_lt, z_le, z_eq, z_in, z_cl]; omega
  by_cases c : S.1.length = 8
  · have f1 : (nI S.1.length < 8) = False := eq_false (fun z => e8.mp z c)
    simp (disch := omega) only [↓EVk, ↓w_if_eq, ↓w_an_ite, ↓mEndK, ↓w_retK0, ↓w_fitK, ↓w_dupK, ↓w_dup2K, w_an_back, ↓EVd, ↓ft_X6_keepDraft, ↓reduceIte, ↓EV_obs, ↓EV_obn, ↓EV_ais, ↓EV_ain, ↓EV_ob h0, mdF, mRun, List.mem_cons, List.not_mem_nil, or_false, mtab_eq, Nat.reduceEqDiff, Nat.zero_add, xO, f1, mset2, b10, b00, not_true_eq_false, not_false_eq_true, true_implies, false_implies, implies_true, and_true, true_and, Nat.le_refl, true_or, or_true, eq_self, List.length_cons, List.length_nil, Nat.reduceAdd, Nat.reduceLT, Nat.reduceLeDiff]
    exact hp0 c
  have f1 : (nI S.1.length < 8) = True := eq_true (e8.mpr c)
  have hcf : (nI S.1.length).toNatClampNeg = S.1.length := nI_clamp (by omega)
  have vq : vp_in (nI S.1.length) 8 := vp_in_nI (by omega) (by decide)
  obtain ⟨K, P, A, n, x, hC⟩ := hX.2.2.2.2.2.2.2.2.2.1 S.1.length (by omega)
  have g0' : h (xF B (nI S.1.length).toNatClampNeg) = some (.inr (0, [.ref (xF B S.1.length + 1), .ref (xF B S.1.length + 2), .ref (xF B S.1.length + 3), .int n, .int x])) := by rw [hcf]; exact hC.1
  simp (disch := omega) only [↓EVi, ↓EVc, ↓ft_X6_keepDraft, ↓reduceIte, ↓EV_obs, ↓EV_obn, ↓EV_ais, ↓EV_ain, ↓EV_ob h0, ↓EV_ob g0', ↓EV_ar hfa, ↓EV_arn, mdF, mRun, List.mem_cons, List.not_mem_nil, or_false, mtab_eq, Nat.reduceEqDiff, Nat.zero_add, xO, f1, vq, hd1, mset2, b10, b00, not_true_eq_false, not_false_eq_true, true_implies, false_implies, implies_true, and_true, true_and, Nat.le_refl, true_or, or_true, eq_self, List.length_cons, List.length_nil, Nat.reduceAdd, Nat.reduceLT, Nat.reduceLeDiff]
  rw [hcf]
  refine c_become (by omega) (by unfold xF; omega) hC hF (fun h1 hF1 hk1 => ?_)
  have hX1 := XR_free hX (Nat.le_refl _) (by omega) hk1 (FR_A hF1)
  have h01 := hX1.1
  simp (disch := omega) only [↓EVi, ↓EVc, ↓ft_X6_keepDraft, ↓reduceIte, ↓EV_obs, ↓EV_obn, ↓EV_ais, ↓EV_ain, ↓EV_ob h01, mdF, mRun, List.mem_cons, List.not_mem_nil, or_false, mtab_eq, Nat.reduceEqDiff, Nat.zero_add, xO, mset2, b10, b00, not_true_eq_false, not_false_eq_true, true_implies, false_implies, implies_true, and_true, true_and, Nat.le_refl, true_or, or_true, eq_self, List.length_cons, List.length_nil, Nat.reduceAdd, Nat.reduceLT, Nat.reduceLeDiff]
  rw [nI_1, nI_pred]
  refine hp1 c _ (XR_more hX1 (fun q hq => mset_ne (by omega)) mset_same hF1) (fun q hq => ?_)
  rw [mset_ne (by omega)]
  exact hk1 q (by unfold xF; omega)
set_option maxRecDepth 10000 in
theorem X_copy {f : Int32} (hd : 3 ≤ d) (hI : SInv S) (hX : XR h G B S) (hp : ∀ h', XR h' G B (aCopy f S).2 → mKeep h h' B (B + 136) → post (some (.int (aCopy f S).1)) h') : MC G MX6_copy d 0 0 [.ref B, .int f] h N post := by
  have h0 := hX.1
  have h8 := hI.1
  have hd1 : 1 ≤ d := by omega
  have hfa := hX.2.2.2.1
  unfold aCopy at hp
  refine MC.of (L0 := [some (.ref B), some (.int f)]) gd_X6_copy (Nat.le_of_ble_eq_true rfl) rfl (MW.run gd_X6_copy [] 30 ?_)
  simp (disch := omega) only [↓EVi, ↓EVc, ↓ft_X6_copy, ↓reduceIte, ↓EV_obs, ↓EV_obn, ↓EV_ais, ↓EV_ain, ↓EV_ob h0, mdF, mRun, List.mem_cons, List.not_mem_nil, or_false, mtab_eq, Nat.reduceEqDiff, Nat.zero_add, xO, hd1, mset2, b10, b00, not_true_eq_false, not_false_eq_true, true_implies, false_implies, implies_true, and_true, true_and, Nat.le_refl, true_or, or_true, eq_self, List.length_cons, List.length_nil, Nat.reduceAdd, Nat.reduceLT, Nat.reduceLeDiff]
  refine x_isFront hX ?_
  rcases isF_c S f hI with c | ⟨q, hq, rfl, c, hfr⟩
  · rw [if_neg c] at hp
    rw [if_neg c]
    simp (disch := omega) only [↓EVi, ↓EVc, ↓ft_X6_copy, ↓reduceIte, ↓EV_obs, ↓EV_obn, ↓EV_ais, ↓EV_ain, ↓EV_ob h0, mdF, mRun, List.mem_cons, List.not_mem_nil, or_false, mtab_eq, Nat.reduceEqDiff, Nat.zero_add, xO, hd1, mset2, b10, b00, not_true_eq_false, not_false_eq_true, true_implies, false_implies, implies_true, and_true, true_and, Nat.le_refl, true_or, or_true, eq_self, List.length_cons, List.length_nil, Nat.reduceAdd, Nat.reduceLT, Nat.reduceLeDiff]
    exact hp h hX mKeep_rfl
  rw [if_pos c, hfr] at hp
  rw [if_pos c]
  have hcf : (nI q).toNatClampNeg = q := nI_clamp (by omega)
  have vq : vp_in (nI q) 8 := vp_in_nI (by omega) (by decide)
  obtain ⟨K, P, A, n, x, hC⟩ := hX.2.2.2.2.1
  have hF := hX.2.2.2.2.2.2.2.2.2.2 q hq
  have dr0 := hC.1
  simp (disch := omega) only [↓EVi, ↓EVc, ↓ft_X6_copy, ↓reduceIte, ↓EV_obs, ↓EV_obn, ↓EV_ais, ↓EV_ain, ↓EV_ob h0, ↓EV_ob dr0, ↓EV_ar hfa, ↓EV_arn, mdF, mRun, List.mem_cons, List.not_mem_nil, or_false, mtab_eq, Nat.reduceEqDiff, Nat.zero_add, xO, hd1, vq, mset2, b10, b00, not_true_eq_false, not_false_eq_true, true_implies, false_implies, implies_true, and_true, true_and, Nat.le_refl, true_or, or_true, eq_self, List.length_cons, List.length_nil, Nat.reduceAdd, Nat.reduceLT, Nat.reduceLeDiff]
  rw [hcf]
  refine c_become (by omega) (by unfold xF; omega) hC hF (fun h1 hF1 hk1 => ?_)
  have hX1 := XR_draft hX hk1 (FR_A hF1)
  have h01 := hX1.1
  simp (disch := omega) only [↓EVi, ↓EVc, ↓ft_X6_copy, ↓reduceIte, ↓EV_obs, ↓EV_obn, ↓EV_ais, ↓EV_ain, ↓EV_ob h01, mdF, mRun, List.mem_cons, List.not_mem_nil, or_false, mtab_eq, Nat.reduceEqDiff, Nat.zero_add, xO, hd1, mset2, b10, b00, not_true_eq_false, not_false_eq_true, true_implies, false_implies, implies_true, and_true, true_and, Nat.le_refl, true_or, or_true, eq_self, List.length_cons, List.length_nil, Nat.reduceAdd, Nat.reduceLT, Nat.reduceLeDiff]
  refine x_keepDraft (by omega) hI hX1 hF1 (fun z => ?_) (fun z h2 hX2 hk2 => ?_)
  · simp (disch := omega) only [↓EVi, ↓EVc, ↓ft_X6_copy, ↓reduceIte, ↓EV_obs, ↓EV_obn, ↓EV_ais, ↓EV_ain, mdF, mRun, List.mem_cons, List.not_mem_nil, or_false, mtab_eq, Nat.reduceEqDiff, Nat.zero_add, hd1, mset2, b10, b00, not_true_eq_false, not_false_eq_true, true_implies, false_implies, implies_true, and_true, true_and, Nat.le_refl, true_or, or_true, eq_self, List.length_cons, List.length_nil, Nat.reduceAdd, Nat.reduceLT, Nat.reduceLeDiff]
    rw [if_pos z] at hp
    exact hp h1 hX1 (mKeep_in hk1 (by omega) (by omega))
  · simp (disch := omega) only [↓EVi, ↓EVc, ↓ft_X6_copy, ↓reduceIte, ↓EV_obs, ↓EV_obn, ↓EV_ais, ↓EV_ain, mdF, mRun, List.mem_cons, List.not_mem_nil, or_false, mtab_eq, Nat.reduceEqDiff, Nat.zero_add, hd1, mset2, b10, b00, not_true_eq_false, not_false_eq_true, true_implies, false_implies, implies_true, and_true, true_and, Nat.le_refl, true_or, or_true, eq_self, List.length_cons, List.length_nil, Nat.reduceAdd, Nat.reduceLT, Nat.reduceLeDiff]
    rw [if_neg z] at hp
    exact hp h2 hX2 (mKeep_trans (mKeep_in hk1 (by omega) (by omega)) hk2)
set_option maxRecDepth 10000 in
theorem X_unlike {f g : Int32} (hd : 2 ≤ d) (hI : SInv S) (hX : XR h G B S) (hp : ∀ h', XR h' G B (aUnlike f g S).2 → mKeep h h' B (B + 136) → post (some (.int (aUnlike f g S).1)) h') : MC G MX6_unlike d 0 0 [.ref B, .int f, .int g] h N post := by
  replace hp := hp h hX mKeep_rfl
  have h0 := hX.1
  have h8 := hI.1
  have hd1 : 1 ≤ d := by omega
  have hfa := hX.2.2.2.1
  unfold aUnlike at hp
  refine MC.of (L0 := [some (.ref B), some (.int f), some (.int g)]) gd_X6_unlike (Nat.le_of_ble_eq_true rfl) rfl (MW.run gd_X6_unlike [] 30 ?_)
  simp (disch := omega) only [↓EVi, ↓EVc, ↓ft_X6_unlike, ↓reduceIte, ↓EV_obs, ↓EV_obn, ↓EV_ais, ↓EV_ain, ↓EV_ob h0, mdF, mRun, List.mem_cons, List.not_mem_nil, or_false, mtab_eq, Nat.reduceEqDiff, Nat.zero_add, xO, hd1, mset2, b10, b00, not_true_eq_false, not_false_eq_true, true_implies, false_implies, implies_true, and_true, true_and, Nat.le_refl, true_or, or_true, eq_self, List.length_cons, List.length_nil, Nat.reduceAdd, Nat.reduceLT, Nat.reduceLeDiff]
  refine x_isFront hX ?_
  rcases isF_c S f hI with c | ⟨q, hq, rfl, c, hfr⟩
  · rw [if_neg (fun z => c z.1)] at hp
    rw [if_neg c]
    simp (disch := omega) only [↓EVi, ↓EVc, ↓ft_X6_unlike, ↓reduceIte, ↓EV_obs, ↓EV_obn, ↓EV_ais, ↓EV_ain, ↓EV_ob h0, mdF, mRun, List.mem_cons, List.not_mem_nil, or_false, mtab_eq, Nat.reduceEqDiff, Nat.zero_add, xO, hd1, mset2, b10, b00, not_true_eq_false, not_false_eq_true, true_implies, false_implies, implies_true, and_true, true_and, Nat.le_refl, true_or, or_true, eq_self, List.length_cons, List.length_nil, Nat.reduceAdd, Nat.reduceLT, Nat.reduceLeDiff]
    exact hp
  rw [if_pos c]
  simp (disch := omega) only [↓EVi, ↓EVc, ↓ft_X6_unlike, ↓reduceIte, ↓EV_obs, ↓EV_obn, ↓EV_ais, ↓EV_ain, ↓EV_ob h0, mdF, mRun, List.mem_cons, List.not_mem_nil, or_false, mtab_eq, Nat.reduceEqDiff, Nat.zero_add, xO, hd1, mset2, b10, b00, not_true_eq_false, not_false_eq_true, true_implies, false_implies, implies_true, and_true, true_and, Nat.le_refl, true_or, or_true, eq_self, List.length_cons, List.length_nil, Nat.reduceAdd, Nat.reduceLT, Nat.reduceLeDiff]
  refine x_isFront hX ?_
  rcases isF_c S g hI with c2 | ⟨r, hr, rfl, c2, hgr⟩
  · rw [if_neg (fun z => c2 z.2)] at hp
    rw [if_neg c2]
    simp (disch := omega) only [↓EVi, ↓EVc, ↓ft_X6_unlike, ↓reduceIte, ↓EV_obs, ↓EV_obn, ↓EV_ais, ↓EV_ain, ↓EV_ob h0, mdF, mRun, List.mem_cons, List.not_mem_nil, or_false, mtab_eq, Nat.reduceEqDiff, Nat.zero_add, xO, hd1, mset2, b10, b00, not_true_eq_false, not_false_eq_true, true_implies, false_implies, implies_true, and_true, true_and, Nat.le_refl, true_or, or_true, eq_self, List.length_cons, List.length_nil, Nat.reduceAdd, Nat.reduceLT, Nat.reduceLeDiff]
    exact hp
  rw [if_pos c2]
  rw [if_pos ⟨c, c2⟩, hfr, hgr] at hp
  have hcq : (nI q).toNatClampNeg = q := nI_clamp (by omega)
  have hcr : (nI r).toNatClampNeg = r := nI_clamp (by omega)
  have vq : vp_in (nI q) 8 := vp_in_nI (by omega) (by decide)
  have vr : vp_in (nI r) 8 := vp_in_nI (by omega) (by decide)
  have hF := hX.2.2.2.2.2.2.2.2.2.2 q hq
  have hF2 := hX.2.2.2.2.2.2.2.2.2.2 r hr
  obtain ⟨-, K, P, A, ⟨g0, -⟩, -⟩ := id hF
  have g0' : h (xF B (nI q).toNatClampNeg) = some (.inr (0, [.ref (xF B q + 1), .ref (xF B q + 2), .ref (xF B q + 3), .int (nI (S.1.getD q []).length), .int (nI (crs (S.1.getD q [])))])) := by rw [hcq]; exact g0
  simp (disch := omega) only [↓EVi, ↓EVc, ↓ft_X6_unlike, ↓reduceIte, ↓EV_obs, ↓EV_obn, ↓EV_ais, ↓EV_ain, ↓EV_ob h0, ↓EV_ob g0', ↓EV_ar hfa, ↓EV_arn, mdF, mRun, List.mem_cons, List.not_mem_nil, or_false, mtab_eq, Nat.reduceEqDiff, Nat.zero_add, xO, hd1, vq, vr, mset2, b10, b00, not_true_eq_false, not_false_eq_true, true_implies, false_implies, implies_true, and_true, true_and, Nat.le_refl, true_or, or_true, eq_self, List.length_cons, List.length_nil, Nat.reduceAdd, Nat.reduceLT, Nat.reduceLeDiff]
  rw [hcq, hcr]
  refine c_firstUnlike (by omega) hF hF2 ?_
  simp (disch := omega) only [↓EVi, ↓EVc, ↓ft_X6_unlike, ↓reduceIte, ↓EV_obs, ↓EV_obn, ↓EV_ais, ↓EV_ain, mdF, mRun, List.mem_cons, List.not_mem_nil, or_false, mtab_eq, Nat.reduceEqDiff, Nat.zero_add, hd1, mset2, b10, b00, not_true_eq_false, not_false_eq_true, true_implies, false_implies, implies_true, and_true, true_and, Nat.le_refl, true_or, or_true, eq_self, List.length_cons, List.length_nil, Nat.reduceAdd, Nat.reduceLT, Nat.reduceLeDiff]
  exact hp
set_option maxRecDepth 10000 in
theorem X_event {f i w : Int32} (hd : 3 ≤ d) (hI : SInv S) (hX : XR h G B S) (hp : ∀ h', XR h' G B (aEvent f i w S).2 → mKeep h h' B (B + 136) → post (some (.int (aEvent f i w S).1)) h') : MC G MX6_event d 0 0 [.ref B, .int f, .int i, .int w] h N post := by
  replace hp := hp h hX mKeep_rfl
  have h0 := hX.1
  have h8 := hI.1
  have hd1 : 1 ≤ d := by omega
  have hfa := hX.2.2.2.1
  unfold aEvent at hp
  refine MC.of (L0 := [some (.ref B), some (.int f), some (.int i), some (.int w)]) gd_X6_event (Nat.le_of_ble_eq_true rfl) rfl (MW.run gd_X6_event [12] 30 ?_)
  simp (disch := omega) only [↓EVi, ↓EVc, ↓ft_X6_event, ↓reduceIte, ↓EV_obs, ↓EV_obn, ↓EV_ais, ↓EV_ain, ↓EV_ob h0, mdF, mRun, List.mem_cons, List.not_mem_nil, or_false, mtab_eq, Nat.reduceEqDiff, Nat.zero_add, xO, hd1, mset2, b10, b00, not_true_eq_false, not_false_eq_true, true_implies, false_implies, implies_true, and_true, true_and, Nat.le_refl, true_or, or_true, eq_self, List.length_cons, List.length_nil, Nat.reduceAdd, Nat.reduceLT, Nat.reduceLeDiff]
  refine x_isEvent (by omega) hI hX ?_
  by_cases c : isF S f ∧ (0 ≤ i ∧ i < nI (fr S f).length)
  case neg =>
    rw [if_neg c]
    rw [if_neg (fun z => c ⟨z.1, z.2.1⟩)] at hp
    simp (disch := omega) only [↓EVi, ↓EVc, ↓ft_X6_event, ↓reduceIte, ↓EV_obs, ↓EV_obn, ↓EV_ais, ↓EV_ain, ↓EV_ob h0, mdF, mRun, List.mem_cons, List.not_mem_nil, or_false, mtab_eq, Nat.reduceEqDiff, Nat.zero_add, xO, hd1, mset2, b10, b00, not_true_eq_false, not_false_eq_true, true_implies, false_implies, implies_true, and_true, true_and, Nat.le_refl, true_or, or_true, eq_self, List.length_cons, List.length_nil, Nat.reduceAdd, Nat.reduceLT, Nat.reduceLeDiff]
    exact hp
  rw [if_pos c]
  simp (disch := omega) only [↓EVi, ↓EVc, ↓ft_X6_event, ↓reduceIte, ↓EV_obs, ↓EV_obn, ↓EV_ais, ↓EV_ain, ↓EV_ob h0, mdF, mRun, List.mem_cons, List.not_mem_nil, or_false, mtab_eq, Nat.reduceEqDiff, Nat.zero_add, xO, hd1, mset2, b10, b00, not_true_eq_false, not_false_eq_true, true_implies, false_implies, implies_true, and_true, true_and, Nat.le_refl, true_or, or_true, eq_self, List.length_cons, List.length_nil, Nat.reduceAdd, Nat.reduceLT, Nat.reduceLeDiff]
  rcases isF_c S f hI with z | ⟨q, hq, rfl, -, hfr⟩
  · exact absurd c.1 z
  have hw := hI.2.1 q hq
  have b := vld_bd hw.1
  rw [hfr] at hp c
  rcases arg_ix i (n := (S.1.getD q []).length) (by omega) with z | ⟨j, hj, rfl⟩
  · exact absurd c.2 z
  rw [nI_clamp (n := j) (by omega)] at hp
  have hcq : (nI q).toNatClampNeg = q := nI_clamp (by omega)
  have vq : vp_in (nI q) 8 := vp_in_nI (by omega) (by decide)
  obtain ⟨hv, K, P, A, ⟨g0, g1, g2, g3⟩, hKP, hA⟩ := hX.2.2.2.2.2.2.2.2.2.2 q hq
  have g0' : h (xF B (nI q).toNatClampNeg) = some (.inr (0, [.ref (xF B q + 1), .ref (xF B q + 2), .ref (xF B q + 3), .int (nI (S.1.getD q []).length), .int (nI (crs (S.1.getD q [])))])) := by rw [hcq]; exact g0
  have ci : (nI j).toNatClampNeg = j := nI_clamp (by omega)
  have vi : vp_in (nI j) 30 := vp_in_nI (by omega) (by decide)
  have vj : vp_in (nI j) 31 := vp_in_nI (by omega) (by decide)
  have eK : K j = nI (evK (S.1.getD q []) j) := (hKP j hj).1
  have eP : P j = nI (evP (S.1.getD q []) j) := (hKP j hj).2
  have eA : A j = nI (ahL ((S.1.getD q []).take j)) := hA j (by omega)
  have D := MW.dec (e := (.tableswitch 64 0 2 #[28, 40, 52], 40, 0, 0, 0, 0, 0)) (pc := 12) gd_X6_event rfl
  by_cases k : 0 ≤ w ∧ w ≤ 2
  · rw [if_pos ⟨c.1, c.2, k⟩] at hp
    obtain ⟨t, ht, rfl⟩ := arg_le w 2 (by decide) k
    rcases (by omega : t = 0 ∨ t = 1 ∨ t = 2) with rfl | rfl | rfl
    · rw [if_pos (show nI 0 = (0 : Int32) from rfl)] at hp
      refine MW.tsw0 (tgt := 40) (off := 28) D (by decide) (by decide) rfl (by decide) (MW.run gd_X6_event [] 12 ?_)
      simp (disch := omega) only [↓EVi, ↓EVc, ↓ft_X6_event, ↓reduceIte, ↓EV_obs, ↓EV_obn, ↓EV_ais, ↓EV_ain, ↓EV_ob h0, ↓EV_ob g0', ↓EV_ar hfa, ↓EV_arn, ↓EV_ai g1, mdF, mRun, List.mem_cons, List.not_mem_nil, or_false, mtab_eq, Nat.reduceEqDiff, Nat.zero_add, xO, vq, ci, vi, eK, mset2, b10, b00, not_true_eq_false, not_false_eq_true, true_implies, false_implies, implies_true, and_true, true_and, Nat.le_refl, true_or, or_true, eq_self, List.length_cons, List.length_nil, Nat.reduceAdd, Nat.reduceLT, Nat.reduceLeDiff]
      exact hp
    · rw [if_neg (by decide), if_pos (show nI 1 = (1 : Int32) from rfl)] at hp
      refine MW.tsw0 (tgt := 52) (off := 40) D (by decide) (by decide) rfl (by decide) (MW.run gd_X6_event [] 12 ?_)
      simp (disch := omega) only [↓EVi, ↓EVc, ↓ft_X6_event, ↓reduceIte, ↓EV_obs, ↓EV_obn, ↓EV_ais, ↓EV_ain, ↓EV_ob h0, ↓EV_ob g0', ↓EV_ar hfa, ↓EV_arn, ↓EV_ai g2, mdF, mRun, List.mem_cons, List.not_mem_nil, or_false, mtab_eq, Nat.reduceEqDiff, Nat.zero_add, xO, vq, ci, vi, eP, mset2, b10, b00, not_true_eq_false, not_false_eq_true, true_implies, false_implies, implies_true, and_true, true_and, Nat.le_refl, true_or, or_true, eq_self, List.length_cons, List.length_nil, Nat.reduceAdd, Nat.reduceLT, Nat.reduceLeDiff]
      exact hp
    · rw [if_neg (by decide), if_neg (by decide)] at hp
      refine MW.tsw0 (tgt := 64) (off := 52) D (by decide) (by decide) rfl (by decide) (MW.run gd_X6_event [] 12 ?_)
      simp (disch := omega) only [↓EVi, ↓EVc, ↓ft_X6_event, ↓reduceIte, ↓EV_obs, ↓EV_obn, ↓EV_ais, ↓EV_ain, ↓EV_ob h0, ↓EV_ob g0', ↓EV_ar hfa, ↓EV_arn, ↓EV_ai g3, mdF, mRun, List.mem_cons, List.not_mem_nil, or_false, mtab_eq, Nat.reduceEqDiff, Nat.zero_add, xO, vq, ci, vj, eA, mset2, b10, b00, not_true_eq_false, not_false_eq_true, true_implies, false_implies, implies_true, and_true, true_and, Nat.le_refl, true_or, or_true, eq_self, List.length_cons, List.length_nil, Nat.reduceAdd, Nat.reduceLT, Nat.reduceLeDiff]
      exact hp
  · rw [if_neg (fun z => k z.2.2)] at hp
    refine MW.tswOut (tgt := 76) D ?_ (by decide) (MW.run gd_X6_event [] 10 ?_)
    · obtain ⟨z, z1, z2, rfl⟩ := z_of w
      rw [z_toInt ⟨z1, z2⟩]
      simp (disch := omega) only [z_nI, z_lit, z_neg, z_add, z_sub, z_mul, z_lt, z_le, z_eq, z_in, z_cl] at k
      omega
    · simp (disch := omega) only [↓EVi, ↓EVc, ↓ft_X6_event, ↓reduceIte, ↓EV_obs, ↓EV_obn, ↓EV_ais, ↓EV_ain, mdF, mRun, List.mem_cons, List.not_mem_nil, or_false, mtab_eq, Nat.reduceEqDiff, Nat.zero_add, mset2, b10, b00, not_true_eq_false, not_false_eq_true, true_implies, false_implies, implies_true, and_true, true_and, Nat.le_refl, true_or, or_true, eq_self, List.length_cons, List.length_nil, Nat.reduceAdd, Nat.reduceLT, Nat.reduceLeDiff]
      exact hp
end XS
