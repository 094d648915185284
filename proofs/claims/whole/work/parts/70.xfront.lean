/-! Tape: tell; the class's feed and front -/
section TPS
variable {G : mG} {d N T F B : Nat} {S : AS} {tp : List Nat} {h : mH} {post : Option Value → mH → Prop}
set_option maxRecDepth 10000 in
theorem t_tell (hd : 7 ≤ d) (hTF : T + 1 < F ∨ F + 3 < T) (hRL : RLs G) (hT : TapeR h G T tp) (h120 : tp.length ≤ 120) (h256 : ∀ i, i < tp.length → tp.getD i 0 < 256) (hFA : FA h G F)
    (hp1 : ∀ c p, prs tp 31 0 [] = .inl (c, p) → 1 ≤ c → c ≤ 4 → p ≤ 120 → ∀ h1 h' q k x, TQ h' G T tp q k (nI p) x → FA h' G F → mKeep h h1 T (T + 1) → mKeep h1 h' F (F + 3) → post (some (.int (nI c))) h')
    (hp0 : ∀ es, prs tp 31 0 [] = .inr es → whl es → ∀ h1 h', TapeR h' G T tp → FrontR h' G F es → mKeep h h1 T (T + 1) → mKeep h1 h' F (F + 3) → post (some (.int 0)) h') : MC G MX4_tell d 0 0 [.ref T, .ref F] h N post := by
  have hd1 : 1 ≤ d := by omega
  generalize hr0 : prs tp 31 0 [] = r0 at hp1 hp0
  obtain ⟨K, P, A, n, x, hC⟩ := hFA
  have fr0 := hC.1
  -- two ranges of cells change: swap the order of what changed
  have com : ∀ {h h1 h2 : mH}, mKeep h h1 F (F + 3) → mKeep h1 h2 T (T + 1) → ∃ h3, mKeep h h3 T (T + 1) ∧ mKeep h3 h2 F (F + 3) := by
    intro h h1 h2 k1 k2
    refine ⟨fun q => if T ≤ q ∧ q ≤ T + 1 then h2 q else h q, fun q hq => if_neg (by omega), fun q hq => ?_⟩
    by_cases c : T ≤ q ∧ q ≤ T + 1
    · simp only [if_pos c]
    · simp only [if_neg c]
      rw [k2 q (by omega), k1 q hq]
  refine MC.of (L0 := [some (.ref T), some (.ref F), none, none]) gd_X4_tell (Nat.le_of_ble_eq_true rfl) rfl (MW.run gd_X4_tell [11] 20 ?_)
  simp (disch := omega) only [↓EVi, ↓EVc, ↓ft_X4_tell, ↓reduceIte, ↓EV_obs, ↓EV_obn, ↓EV_ais, ↓EV_ain, ↓EV_ob fr0, mdF, mRun, List.mem_cons, List.not_mem_nil, or_false, mtab_eq, Nat.reduceEqDiff, Nat.zero_add, hd1, mset2, b10, b00, not_true_eq_false, not_false_eq_true, true_implies, false_implies, implies_true, and_true, true_and, Nat.le_refl, true_or, or_true, eq_self, List.length_cons, List.length_nil, Nat.reduceAdd, Nat.reduceLT, Nat.reduceLeDiff]
  refine t_clear hC (fun h1 hC1 hk1 => ?_)
  have hR1 := clear_R (h := h) hC1
  obtain ⟨Bt, p, k, t, y, ⟨t0, t1⟩, t2⟩ := TR_eq (eqO_of hk1 (show T + 1 < F ∨ F + 3 < T by omega)) hT
  simp (disch := omega) only [↓EVi, ↓EVc, ↓ft_X4_tell, ↓reduceIte, ↓EV_obs, ↓EV_obn, ↓EV_ais, ↓EV_ain, ↓EV_ob t0, mdF, mRun, List.mem_cons, List.not_mem_nil, or_false, mtab_eq, Nat.reduceEqDiff, Nat.zero_add, hd1, mset2, b10, b00, not_true_eq_false, not_false_eq_true, true_implies, false_implies, implies_true, and_true, true_and, Nat.le_refl, true_or, or_true, eq_self, List.length_cons, List.length_nil, Nat.reduceAdd, Nat.reduceLT, Nat.reduceLeDiff]
  have hT2 : TQ (mset h1 T (.inr (4, [.ref (T + 1), .int (nI tp.length), .int 0, .int k, .int t, .int y]))) G T tp (nI 0) k t y := ⟨⟨Bt, ⟨mset_same, by rw [mset_ne (by omega)]; exact t1⟩, t2⟩, h120, h256⟩
  have hkT : mKeep h1 (mset h1 T (.inr (4, [.ref (T + 1), .int (nI tp.length), .int 0, .int k, .int t, .int y]))) T (T + 1) := fun z hz => mset_ne (by omega)
  obtain ⟨hs, hs1, hs2⟩ := com hk1 hkT
  refine MW.rept (fun m L h' => ∃ i es p0 k t y x3, L = [some (.ref T), some (.ref F), some (.int (nI i)), x3] ∧ m = 31 - i ∧ es.length = i ∧ TQ h' G T tp (nI p0) k t y ∧ p0 ≤ tp.length ∧ FrontR h' G F es ∧ r0 = prs tp (31 - i) p0 es ∧ ∃ h2, mKeep h h2 T (T + 1) ∧ mKeep h2 h' F (F + 3)) ?_ 31 _ _ ⟨0, [], 0, k, t, y, none, rfl, rfl, rfl, hT2, Nat.zero_le _, FrontR_keep hR1 hkT (by omega), hr0.symm, hs, hs1, hs2⟩
  rintro m L h' ⟨i, es, p0, k, t, y, x3, rfl, hm, hlen, hTp, hpq, hF, hpr, h2, hk2, hk3⟩ ih
  obtain ⟨hv, -⟩ := id hF
  have b := vld_bd hv
  have f1 : ((30 : Int32) < nI i) = False := eq_false (by simp (disch := omega) only [z_nI, z_lit, z_neg, z_add, z_sub, z_mul, z_lt, z_le, z_eq, z_in, z_cl]; omega)
  obtain ⟨⟨Bt', ⟨q0, q1⟩, q2⟩, -, -⟩ := id hTp
  rw [show 31 - i = (30 - i) + 1 by omega, prs_succ] at hpr
  refine MW.run1 gd_X4_tell [11, 42] 14 ?_
  simp (disch := omega) only [↓EVk, ↓w_if_eq, ↓w_an_ite, ↓mEndK, ↓w_retK0, ↓w_fitK, ↓w_dupK, ↓w_dup2K, w_an_back, ↓EVd, ↓ft_X4_tell, ↓reduceIte, ↓EV_obs, ↓EV_obn, ↓EV_ais, ↓EV_ain, ↓EV_ob q0, mdF, mRun, List.mem_cons, List.not_mem_nil, or_false, mtab_eq, Nat.reduceEqDiff, Nat.zero_add, f1, hd1, mset2, b10, b00, not_true_eq_false, not_false_eq_true, true_implies, false_implies, implies_true, and_true, true_and, Nat.le_refl, true_or, or_true, eq_self, List.length_cons, List.length_nil, Nat.reduceAdd, Nat.reduceLT, Nat.reduceLeDiff]
  refine t_readToken (by omega) hRL hTp hpq (fun h4 hQ4 hk4 => ?_)
  have hF4 := FrontR_keep hF hk4 (by omega)
  have hpl := skp_le hpq
  have tf := tokR_f hpl
  obtain ⟨hx, hx1, hx2⟩ := com hk3 hk4
  have hkx := mKeep_trans hk2 hx1
  obtain ⟨qa, xa, hTa, hqa⟩ := id hQ4
  obtain ⟨⟨Ba, ⟨a0, a1⟩, a2⟩, -, -⟩ := id hTa
  by_cases c0 : (tokR tp (skp tp p0)).1 = 0
  · -- the end of the text
    have f2 : (nI (ckS (tokR tp (skp tp p0)).1) = 3) = True := eq_true (by rw [c0]; rfl)
    unfold prsB at hpr
    rw [if_pos c0] at hpr
    obtain ⟨-, K4, P4, A4, hC4, hKP4, hA4⟩ := id hF4
    have fr4 := hC4.1
    simp (disch := omega) only [↓EVk, ↓w_if_eq, ↓w_an_ite, ↓mEndK, ↓w_retK0, ↓w_fitK, ↓w_dupK, ↓w_dup2K, w_an_back, ↓EVd, ↓ft_X4_tell, ↓reduceIte, ↓EV_obs, ↓EV_obn, ↓EV_ais, ↓EV_ain, ↓EV_ob a0, ↓EV_ob fr4, mdF, mRun, List.mem_cons, List.not_mem_nil, or_false, mtab_eq, Nat.reduceEqDiff, Nat.zero_add, f2, hd1, mset2, b10, b00, not_true_eq_false, not_false_eq_true, true_implies, false_implies, implies_true, and_true, true_and, Nat.le_refl, true_or, or_true, eq_self, List.length_cons, List.length_nil, Nat.reduceAdd, Nat.reduceLT, Nat.reduceLeDiff]
    refine t_isWhole hC4 (vp_in_nI (by omega) (by decide)) ?_
    rw [nI_clamp (by omega), hA4 es.length (Nat.le_refl _), List.take_length]
    by_cases cw : es ≠ [] ∧ ahL es = 0
    · have l1 := List.length_pos_iff.mpr cw.1
      rw [if_neg (by simp (disch := omega) only [z_nI, z_lit, z_neg, z_add, z_sub, z_mul, z_lt, z_le, z_eq, z_in, z_cl]; omega), if_pos (by rw [cw.2]; rfl)]
      rw [if_pos cw] at hpr
      simp (disch := omega) only [↓EVk, ↓w_if_eq, ↓w_an_ite, ↓mEndK, ↓w_retK0, ↓w_fitK, ↓w_dupK, ↓w_dup2K, w_an_back, ↓EVd, ↓ft_X4_tell, ↓reduceIte, ↓EV_obs, ↓EV_obn, ↓EV_ais, ↓EV_ain, mdF, mRun, List.mem_cons, List.not_mem_nil, or_false, mtab_eq, Nat.reduceEqDiff, Nat.zero_add, mset2, b10, b00, not_true_eq_false, not_false_eq_true, true_implies, false_implies, implies_true, and_true, true_and, Nat.le_refl, true_or, or_true, eq_self, List.length_cons, List.length_nil, Nat.reduceAdd, Nat.reduceLT, Nat.reduceLeDiff]
      exact hp0 es hpr ⟨hv, cw.1, cw.2⟩ hx h4 (TQ_R hTa) hF4 hkx hx2
    · rw [if_neg cw] at hpr
      have e0 : (if nI es.length ≤ 0 then (0 : Int32) else if nI (ahL es) = 0 then 1 else 0) = 0 := by
        by_cases z : es = []
        · subst z
          rfl
        · have l1 := List.length_pos_iff.mpr z
          rw [if_neg (by simp (disch := omega) only [z_nI, z_lit, z_neg, z_add, z_sub, z_mul, z_lt, z_le, z_eq, z_in, z_cl]; omega), if_neg]
          intro y
          exact cw ⟨z, (nI_eq (b := 0) (by omega) (by omega)).mp y⟩
      rw [e0]
      simp (disch := omega) only [↓EVk, ↓w_if_eq, ↓w_an_ite, ↓mEndK, ↓w_retK0, ↓w_fitK, ↓w_dupK, ↓w_dup2K, w_an_back, ↓EVd, ↓ft_X4_tell, ↓reduceIte, ↓EV_obs, ↓EV_obn, ↓EV_ais, ↓EV_ain, mdF, mRun, List.mem_cons, List.not_mem_nil, or_false, mtab_eq, Nat.reduceEqDiff, Nat.zero_add, mset2, b10, b00, not_true_eq_false, not_false_eq_true, true_implies, false_implies, implies_true, and_true, true_and, Nat.le_refl, true_or, or_true, eq_self, List.length_cons, List.length_nil, Nat.reduceAdd, Nat.reduceLT, Nat.reduceLeDiff]
      exact hp1 2 _ hpr (by decide) (by decide) (by omega) hx h4 qa _ xa hTa (FR_A hF4) hkx hx2
  have f2 : (nI (ckS (tokR tp (skp tp p0)).1) = 3) = False := eq_false (by
    have h3 := tf.1
    rcases (by omega : (tokR tp (skp tp p0)).1 = 1 ∨ (tokR tp (skp tp p0)).1 = 2 ∨ (tokR tp (skp tp p0)).1 = 3) with e | e | e <;> rw [e] <;> decide)
  simp (disch := omega) only [↓EVk, ↓w_if_eq, ↓w_an_ite, ↓mEndK, ↓w_retK0, ↓w_fitK, ↓w_dupK, ↓w_dup2K, w_an_back, ↓EVd, ↓ft_X4_tell, ↓reduceIte, ↓EV_obs, ↓EV_obn, ↓EV_ais, ↓EV_ain, ↓EV_ob a0, mdF, mRun, List.mem_cons, List.not_mem_nil, or_false, mtab_eq, Nat.reduceEqDiff, Nat.zero_add, f2, hd1, mset2, b10, b00, not_true_eq_false, not_false_eq_true, true_implies, false_implies, implies_true, and_true, true_and, Nat.le_refl, true_or, or_true, eq_self, List.length_cons, List.length_nil, Nat.reduceAdd, Nat.reduceLT, Nat.reduceLeDiff]
  refine MW.run1 gd_X4_tell [11] 14 ?_
  simp (disch := omega) only [↓EVk, ↓w_if_eq, ↓w_an_ite, ↓mEndK, ↓w_retK0, ↓w_fitK, ↓w_dupK, ↓w_dup2K, w_an_back, ↓EVd, ↓ft_X4_tell, ↓reduceIte, ↓EV_obs, ↓EV_obn, ↓EV_ais, ↓EV_ain, ↓EV_ob a0, mdF, mRun, List.mem_cons, List.not_mem_nil, or_false, mtab_eq, Nat.reduceEqDiff, Nat.zero_add, hd1, mset2, b10, b00, not_true_eq_false, not_false_eq_true, true_implies, false_implies, implies_true, and_true, true_and, Nat.le_refl, true_or, or_true, eq_self, List.length_cons, List.length_nil, Nat.reduceAdd, Nat.reduceLT, Nat.reduceLeDiff]
  have ret : ∀ (c : Nat) (h5 : mH), 1 ≤ c → c ≤ 4 → post (some (.int (nI c))) h5 → w_k (wpN G MX4_tell (mz G d 0 0 post) d (mEnd 0 0 post) [11] 12) 47 [some (.ref T), some (.ref F), some (.int (nI i)), x3] [] (N, 0, 0) (some (.int (nI c))) h5 := by
    intro c h5 g1 g2 hpp
    have f3 : (nI c = 0) = False := eq_false (by simp (disch := omega) only [z_nI, z_lit, z_neg, z_add, z_sub, z_mul, z_lt, z_le, z_eq, z_in, z_cl]; omega)
    simp (disch := omega) only [↓EVk, ↓w_if_eq, ↓w_an_ite, ↓mEndK, ↓w_retK0, ↓w_fitK, ↓w_dupK, ↓w_dup2K, w_an_back, ↓EVd, ↓ft_X4_tell, ↓reduceIte, ↓EV_obs, ↓EV_obn, ↓EV_ais, ↓EV_ain, mdF, mRun, List.mem_cons, List.not_mem_nil, or_false, mtab_eq, Nat.reduceEqDiff, Nat.zero_add, f3, mset2, b10, b00, not_true_eq_false, not_false_eq_true, true_implies, false_implies, implies_true, and_true, true_and, Nat.le_refl, true_or, or_true, eq_self, List.length_cons, List.length_nil, Nat.reduceAdd, Nat.reduceLT, Nat.reduceLeDiff]
    exact hpp
  unfold prsB at hpr
  rw [if_neg c0] at hpr
  refine t_tellEvent (by omega) hTF hRL hQ4 hpl c0 hF4 (fun z1 => ?_) (fun z1 z2 => ?_) (fun z1 z2 z3 h5 hQ5 hF5 hk5 => ?_) (fun z1 z2 z3 z4 h5 hQ5 hF5 hk5 => ?_) (fun z1 z2 z3 z4 h6 h5 hQ5 hF5 hk6 hk5 => ?_)
  · rw [if_neg z1] at hpr
    by_cases c3 : (tokR tp (skp tp p0)).1 = 3
    · rw [if_pos c3] at hpr ⊢
      exact ret 1 h4 (by decide) (by decide) (hp1 1 _ hpr (by decide) (by decide) (by omega) hx h4 qa _ xa hTa (FR_A hF4) hkx hx2)
    · rw [if_neg c3] at hpr ⊢
      exact ret 2 h4 (by decide) (by decide) (hp1 2 _ hpr (by decide) (by decide) (by omega) hx h4 qa _ xa hTa (FR_A hF4) hkx hx2)
  · rw [if_pos z1, if_neg z2] at hpr
    exact ret 4 h4 (by decide) (by decide) (hp1 4 _ hpr (by decide) (by decide) (by omega) hx h4 qa _ xa hTa (FR_A hF4) hkx hx2)
  · rw [if_pos z1, if_pos z2, if_neg z3] at hpr
    have hpl2 := skp_le (T := tp) tf.2.1
    obtain ⟨qb, xb, hTb, -⟩ := id hQ5
    obtain ⟨hy, hy1, hy2⟩ := com hx2 hk5
    by_cases c3 : (tokR tp (skp tp (tokR tp (skp tp p0)).2.2)).1 = 3
    · rw [if_pos c3] at hpr ⊢
      exact ret 1 h5 (by decide) (by decide) (hp1 1 _ hpr (by decide) (by decide) (by omega) hy h5 qb _ xb hTb (FR_A hF5) (mKeep_trans hkx hy1) hy2)
    · rw [if_neg c3] at hpr ⊢
      exact ret 2 h5 (by decide) (by decide) (hp1 2 _ hpr (by decide) (by decide) (by omega) hy h5 qb _ xb hTb (FR_A hF5) (mKeep_trans hkx hy1) hy2)
  · rw [if_pos z1, if_pos z2, if_pos z3, if_neg z4] at hpr
    have hpl2 := skp_le (T := tp) tf.2.1
    obtain ⟨qb, xb, hTb, -⟩ := id hQ5
    obtain ⟨hy, hy1, hy2⟩ := com hx2 hk5
    exact ret 3 h5 (by decide) (by decide) (hp1 3 _ hpr (by decide) (by decide) (by omega) hy h5 qb _ xb hTb (FR_A hF5) (mKeep_trans hkx hy1) hy2)
  · rw [if_pos z1, if_pos z2, if_pos z3, if_pos z4] at hpr
    have tf2 := tokR_f (skp_le (T := tp) tf.2.1)
    obtain ⟨qb, xb, hTb, hqb⟩ := id hQ5
    obtain ⟨rfl, rfl⟩ := hqb (Or.inr z3)
    obtain ⟨hy, hy1, hy2⟩ := com hx2 hk6
    simp (disch := omega) only [↓EVk, ↓w_if_eq, ↓w_an_ite, ↓mEndK, ↓w_retK0, ↓w_fitK, ↓w_dupK, ↓w_dup2K, w_an_back, ↓EVd, ↓ft_X4_tell, ↓reduceIte, ↓EV_obs, ↓EV_obn, ↓EV_ais, ↓EV_ain, mdF, mRun, List.mem_cons, List.not_mem_nil, or_false, mtab_eq, Nat.reduceEqDiff, Nat.zero_add, b00, mset2, b10, b00, not_true_eq_false, not_false_eq_true, true_implies, false_implies, implies_true, and_true, true_and, Nat.le_refl, true_or, or_true, eq_self, List.length_cons, List.length_nil, Nat.reduceAdd, Nat.reduceLT, Nat.reduceLeDiff]
    rw [nI_1]
    refine ih (31 - (i + 1)) _ _ (by omega) ⟨i + 1, _, (tokR tp (skp tp (tokR tp (skp tp p0)).2.2)).2.2, _, _, _, _, rfl, rfl, by simp [hlen], hTb, tf2.2.1, hF5, ?_, hy, mKeep_trans hkx hy1, mKeep_trans hy2 hk5⟩
    rw [hpr, show 31 - (i + 1) = 30 - i by omega]
set_option maxRecDepth 10000 in
theorem X_feed {v : Int64} (hd : 1 ≤ d) (hI : SInv S) (hX : XR h G B S) (hp : ∀ h', XR h' G B (aFeed v S).2 → mKeep h h' B (B + 136) → post (some (.int (aFeed v S).1)) h') : MC G MX6_feed d 0 0 [.ref B, .long v] h N post := by
  have h0 := hX.1
  have h120 := hI.2.2.1
  obtain ⟨Bt, p, k, t, x, ⟨t0, t1⟩, t2⟩ := id hX.2.1
  unfold aFeed at hp
  refine MC.of (L0 := [some (.ref B), some (.long v), none]) gd_X6_feed (Nat.le_of_ble_eq_true rfl) rfl (MW.run gd_X6_feed [] 30 ?_)
  have e1 : (nI S.2.1.length ≤ 112) ↔ ¬ 112 < S.2.1.length := by simp (disch := omega) only [z_nI, z_lit, z_neg, z_add, z_sub, z_mul, z_lt, z_le, z_eq, z_in, z_cl]; omega
  by_cases c : 112 < S.2.1.length
  · have f1 : (nI S.2.1.length ≤ 112) = False := eq_false (fun z => e1.mp z c)
    rw [if_pos c] at hp
    simp (disch := omega) only [↓EVk, ↓w_if_eq, ↓w_an_ite, ↓mEndK, ↓w_retK0, ↓w_fitK, ↓w_dupK, ↓w_dup2K, w_an_back, ↓EVd, ↓ft_X6_feed, ↓reduceIte, ↓EV_obs, ↓EV_obn, ↓EV_ais, ↓EV_ain, ↓EV_ob h0, ↓EV_ob t0, mdF, mRun, List.mem_cons, List.not_mem_nil, or_false, mtab_eq, Nat.reduceEqDiff, Nat.zero_add, xO, f1, mset2, b10, b00, not_true_eq_false, not_false_eq_true, true_implies, false_implies, implies_true, and_true, true_and, Nat.le_refl, true_or, or_true, eq_self, List.length_cons, List.length_nil, Nat.reduceAdd, Nat.reduceLT, Nat.reduceLeDiff]
    exact hp h hX mKeep_rfl
  have f1 : (nI S.2.1.length ≤ 112) = True := eq_true (e1.mpr c)
  rw [if_neg c] at hp
  simp (disch := omega) only [↓EVk, ↓w_if_eq, ↓w_an_ite, ↓mEndK, ↓w_retK0, ↓w_fitK, ↓w_dupK, ↓w_dup2K, w_an_back, ↓EVd, ↓ft_X6_feed, ↓reduceIte, ↓EV_obs, ↓EV_obn, ↓EV_ais, ↓EV_ain, ↓EV_ob h0, ↓EV_ob t0, mdF, mRun, List.mem_cons, List.not_mem_nil, or_false, mtab_eq, Nat.reduceEqDiff, Nat.zero_add, xO, f1, hd, mset2, b10, b00, not_true_eq_false, not_false_eq_true, true_implies, false_implies, implies_true, and_true, true_and, Nat.le_refl, true_or, or_true, eq_self, List.length_cons, List.length_nil, Nat.reduceAdd, Nat.reduceLT, Nat.reduceLeDiff]
  refine t_take hX.2.1 (by omega) (fun h1 hT1 hk1 => ?_)
  have hX1 := XR_tape hX hk1 hT1
  obtain ⟨Bt1, p1, k1, t1', x1, ⟨u0, u1⟩, u2⟩ := id hT1
  have hlen : (S.2.1 ++ fBs v 8).length = S.2.1.length + 8 := by unfold fBs; simp
  rw [hlen] at u0
  have h01 := hX1.1
  simp (disch := omega) only [↓EVk, ↓w_if_eq, ↓w_an_ite, ↓mEndK, ↓w_retK0, ↓w_fitK, ↓w_dupK, ↓w_dup2K, w_an_back, ↓EVd, ↓ft_X6_feed, ↓reduceIte, ↓EV_obs, ↓EV_obn, ↓EV_ais, ↓EV_ain, ↓EV_ob h01, ↓EV_ob u0, mdF, mRun, List.mem_cons, List.not_mem_nil, or_false, mtab_eq, Nat.reduceEqDiff, Nat.zero_add, xO, mset2, b10, b00, not_true_eq_false, not_false_eq_true, true_implies, false_implies, implies_true, and_true, true_and, Nat.le_refl, true_or, or_true, eq_self, List.length_cons, List.length_nil, Nat.reduceAdd, Nat.reduceLT, Nat.reduceLeDiff]
  exact hp h1 hX1 (mKeep_in hk1 (by omega) (by omega))
set_option maxRecDepth 10000 in
theorem X_front (hd : 8 ≤ d) (hRL : RLs G) (hI : SInv S) (hX : XR h G B S) (hp : ∀ h', XR h' G B (aFront S).2 → mKeep h h' B (B + 136) → post (some (.int (aFront S).1)) h') : MC G MX6_front d 0 0 [.ref B] h N post := by
  have h0 := hX.1
  have h8 := hI.1
  have hd1 : 1 ≤ d := by omega
  obtain ⟨Bt, p, k, t, x, ⟨t0, t1⟩, t2⟩ := id hX.2.1
  unfold aFront at hp
  refine MC.of (L0 := [some (.ref B)]) gd_X6_front (Nat.le_of_ble_eq_true rfl) rfl (MW.run gd_X6_front [] 30 ?_)
  have e8 : (nI S.1.length < 8) ↔ ¬ S.1.length = 8 := by simp (disch := omega) only [z_nI, z_lit, z_neg, z_add, z_sub, z_mul, z_lt, z_le, z_eq, z_in, z_cl]; omega
  by_cases c : S.1.length = 8
  · have f1 : (nI S.1.length < 8) = False := eq_false (fun z => e8.mp z c)
    rw [if_pos c] at hp
    simp (disch := omega) only [↓EVk, ↓w_if_eq, ↓w_an_ite, ↓mEndK, ↓w_retK0, ↓w_fitK, ↓w_dupK, ↓w_dup2K, w_an_back, ↓EVd, ↓ft_X6_front, ↓reduceIte, ↓EV_obs, ↓EV_obn, ↓EV_ais, ↓EV_ain, ↓EV_ob h0, mdF, mRun, List.mem_cons, List.not_mem_nil, or_false, mtab_eq, Nat.reduceEqDiff, Nat.zero_add, xO, f1, mset2, b10, b00, not_true_eq_false, not_false_eq_true, true_implies, false_implies, implies_true, and_true, true_and, Nat.le_refl, true_or, or_true, eq_self, List.length_cons, List.length_nil, Nat.reduceAdd, Nat.reduceLT, Nat.reduceLeDiff]
    exact hp h hX mKeep_rfl
  have f1 : (nI S.1.length < 8) = True := eq_true (e8.mpr c)
  rw [if_neg c] at hp
  simp (disch := omega) only [↓EVk, ↓w_if_eq, ↓w_an_ite, ↓mEndK, ↓w_retK0, ↓w_fitK, ↓w_dupK, ↓w_dup2K, w_an_back, ↓EVd, ↓ft_X6_front, ↓reduceIte, ↓EV_obs, ↓EV_obn, ↓EV_ais, ↓EV_ain, ↓EV_ob h0, ↓EV_ob t0, mdF, mRun, List.mem_cons, List.not_mem_nil, or_false, mtab_eq, Nat.reduceEqDiff, Nat.zero_add, xO, f1, hd1, mset2, b10, b00, not_true_eq_false, not_false_eq_true, true_implies, false_implies, implies_true, and_true, true_and, Nat.le_refl, true_or, or_true, eq_self, List.length_cons, List.length_nil, Nat.reduceAdd, Nat.reduceLT, Nat.reduceLeDiff]
  refine t_tell (by omega) (by omega) hRL hX.2.1 hI.2.2.1 hI.2.2.2.1 hX.2.2.2.2.1 (fun c1 p1 e g1 g4 g120 h1 h2 q k2 x2 hT2 hF2 hk1 hk2 => ?_) (fun es e hw h1 h2 hT2 hF2 hk1 hk2 => ?_)
  · -- a fault
    rw [e] at hp
    have hT1 : TapeR h1 G (B + 1) S.2.1 := TR_eq (h := h2) (fun z z1 z2 => (hk2 z (by omega)).symm) (TQ_R hT2)
    have hX1 := XR_tape hX hk1 hT1
    have hX2 := XR_draft hX1 hk2 hF2
    have h02 := hX2.1
    obtain ⟨⟨Bt2, ⟨u0, u1⟩, u2⟩, -, -⟩ := id hT2
    have f2 : (nI c1 = 0) = False := eq_false (by simp (disch := omega) only [z_nI, z_lit, z_neg, z_add, z_sub, z_mul, z_lt, z_le, z_eq, z_in, z_cl]; omega)
    have wide := mKeep_trans (mKeep_in hk1 (show B ≤ B + 1 by omega) (show B + 1 + 1 ≤ B + 136 by omega)) (mKeep_in hk2 (show B ≤ B + 5 by omega) (show B + 5 + 3 ≤ B + 136 by omega))
    simp (disch := omega) only [↓EVk, ↓w_if_eq, ↓w_an_ite, ↓mEndK, ↓w_retK0, ↓w_fitK, ↓w_dupK, ↓w_dup2K, w_an_back, ↓EVd, ↓ft_X6_front, ↓reduceIte, ↓EV_obs, ↓EV_obn, ↓EV_ais, ↓EV_ain, ↓EV_ob h02, ↓EV_ob u0, mdF, mRun, List.mem_cons, List.not_mem_nil, or_false, mtab_eq, Nat.reduceEqDiff, Nat.zero_add, xO, f2, mset2, b10, b00, not_true_eq_false, not_false_eq_true, true_implies, false_implies, implies_true, and_true, true_and, Nat.le_refl, true_or, or_true, eq_self, List.length_cons, List.length_nil, Nat.reduceAdd, Nat.reduceLT, Nat.reduceLeDiff]
    have key : ∀ h3, h3 = mset (mset h2 B (.inr (6, xO B (nI S.1.length) (nI c1)))) (B + 1) (.inr (4, [.ref (B + 1 + 1), .int 0, .int q, .int k2, .int (nI p1), .int x2])) → post (some (.int (-10 - nI p1))) h3 := by
      intro h3 eh
      have hX3 := XR_fault (l := c1) (h' := mset h2 B (.inr (6, xO B (nI S.1.length) (nI c1)))) hX2 (fun z hz => mset_ne (by omega)) mset_same
      have hX4 := XR_tape (h' := h3) (tp := []) hX3 (fun z hz => by rw [eh]; exact mset_ne (by omega)) ⟨Bt2, q, k2, nI p1, x2, ⟨by rw [eh, mset_same]; rfl, by rw [eh, mset_ne (by omega), mset_ne (by omega)]; exact u1⟩, fun i hi => absurd hi (Nat.not_lt_zero i)⟩
      exact hp h3 hX4 (fun z hz => by rw [eh, mset_ne (by omega), mset_ne (by omega)]; exact wide z hz)
    exact key _ rfl
  · -- a front
    rw [e] at hp
    have hT1 : TapeR h1 G (B + 1) S.2.1 := TR_eq (h := h2) (fun z z1 z2 => (hk2 z (by omega)).symm) hT2
    have hX1 := XR_tape hX hk1 hT1
    have hX2 := XR_draft hX1 hk2 (FR_A hF2)
    have h02 := hX2.1
    obtain ⟨Bt2, q, k2, t3, x2, ⟨u0, u1⟩, u2⟩ := id hT2
    have wide := mKeep_trans (mKeep_in hk1 (show B ≤ B + 1 by omega) (show B + 1 + 1 ≤ B + 136 by omega)) (mKeep_in hk2 (show B ≤ B + 5 by omega) (show B + 5 + 3 ≤ B + 136 by omega))
    simp (disch := omega) only [↓EVk, ↓w_if_eq, ↓w_an_ite, ↓mEndK, ↓w_retK0, ↓w_fitK, ↓w_dupK, ↓w_dup2K, w_an_back, ↓EVd, ↓ft_X6_front, ↓reduceIte, ↓EV_obs, ↓EV_obn, ↓EV_ais, ↓EV_ain, ↓EV_ob h02, ↓EV_ob u0, mdF, mRun, List.mem_cons, List.not_mem_nil, or_false, mtab_eq, Nat.reduceEqDiff, Nat.zero_add, xO, hd1, mset2, b10, b00, not_true_eq_false, not_false_eq_true, true_implies, false_implies, implies_true, and_true, true_and, Nat.le_refl, true_or, or_true, eq_self, List.length_cons, List.length_nil, Nat.reduceAdd, Nat.reduceLT, Nat.reduceLeDiff]
    have key : ∀ h3, h3 = mset (mset h2 B (.inr (6, xO B (nI S.1.length) 0))) (B + 1) (.inr (4, [.ref (B + 1 + 1), .int 0, .int q, .int k2, .int t3, .int x2])) → MC G MX6_keepDraft (d - 1) 0 0 [.ref B] h3 N (w_k (wpN G MX6_front (mz G d 0 0 post) d (mEnd 0 0 post) [] 10) 46 [some (.ref B)] [] (N, 0, 0)) := by
      intro h3 eh
      have hX3 := XR_fault (l := 0) (h' := mset h2 B (.inr (6, xO B (nI S.1.length) 0))) hX2 (fun z hz => mset_ne (by omega)) mset_same
      have hX4 := XR_tape (h' := h3) (tp := []) hX3 (fun z hz => by rw [eh]; exact mset_ne (by omega)) ⟨Bt2, q, k2, t3, x2, ⟨by rw [eh, mset_same]; rfl, by rw [eh, mset_ne (by omega), mset_ne (by omega)]; exact u1⟩, fun i hi => absurd hi (Nat.not_lt_zero i)⟩
      have hk3 : mKeep h2 h3 B (B + 1) := fun z hz => by rw [eh, mset_ne (by omega), mset_ne (by omega)]
      have hI4 : SInv (S.1, [], 0, S.2.2.2) := ⟨hI.1, hI.2.1, Nat.zero_le _, fun i hi => absurd hi (Nat.not_lt_zero i), Nat.zero_le _, hI.2.2.2.2.2⟩
      refine x_keepDraft (S := (S.1, [], 0, S.2.2.2)) (by omega) hI4 hX4 (FrontR_keep hF2 hk3 (by omega)) (fun z => absurd z c) (fun _ h4 hX5 hk4 => ?_)
      simp (disch := omega) only [↓EVk, ↓w_if_eq, ↓w_an_ite, ↓mEndK, ↓w_retK0, ↓w_fitK, ↓w_dupK, ↓w_dup2K, w_an_back, ↓EVd, ↓ft_X6_front, ↓reduceIte, ↓EV_obs, ↓EV_obn, ↓EV_ais, ↓EV_ain, mdF, mRun, List.mem_cons, List.not_mem_nil, or_false, mtab_eq, Nat.reduceEqDiff, Nat.zero_add, mset2, b10, b00, not_true_eq_false, not_false_eq_true, true_implies, false_implies, implies_true, and_true, true_and, Nat.le_refl, true_or, or_true, eq_self, List.length_cons, List.length_nil, Nat.reduceAdd, Nat.reduceLT, Nat.reduceLeDiff]
      exact hp h4 hX5 (mKeep_trans (mKeep_trans wide (mKeep_in hk3 (Nat.le_refl _) (by omega))) hk4)
    exact key _ rfl
end TPS
