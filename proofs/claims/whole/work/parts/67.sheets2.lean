/-! Sheet: tell; draw -/
section XS
variable {G : mG} {d N B s F : Nat} {sh : Sh} {S : AS} {h : mH} {post : Option Value → mH → Prop}
set_option maxRecDepth 10000 in
theorem s_tell {l f : Int32} {m : Nat} (hd : 4 ≤ d) (hSF : s + 1 < F ∨ F + 3 < s) (hS : SheetR h G s sh) (hl : sh.1 = -4 ∨ sh.1 = 0 ∨ sh.1 = 1 ∨ sh.1 = 2) (hl2 : l = 0 ∨ l = 1 ∨ l = 2) (hsz : sh.2.1 ≤ 62) (hFA : FA h G F) (hm1 : 1 ≤ m) (hm : m ≤ 30)
    (hp1 : sh.1 = -4 → post (some (.int (-11))) h)
    (hp2 : ¬ sh.1 = -4 → ¬ sh.1 = l → post (some (.int (-13))) h)
    (hp3 : ¬ sh.1 = -4 → sh.1 = l → ∀ r, drawL sh.2.2 sh.2.1 f.toInt m 0 [] = .inl r → ∀ h', FA h' G F → mKeep h h' F (F + 3) → post (some (.int r)) h')
    (hp4 : ¬ sh.1 = -4 → sh.1 = l → ∀ es, drawL sh.2.2 sh.2.1 f.toInt m 0 [] = .inr es → 0 < ahL es → ∀ h', FA h' G F → mKeep h h' F (F + 3) → post (some (.int (-50))) h')
    (hp0 : ¬ sh.1 = -4 → sh.1 = l → ∀ es, drawL sh.2.2 sh.2.1 f.toInt m 0 [] = .inr es → ¬ 0 < ahL es → es ≠ [] → ∀ h', FrontR h' G F es → mKeep h h' F (F + 3) → post (some (.int 0)) h') : MC G MX2_tell d 0 0 [.ref s, .ref F, .int l, .int f, .int (nI m)] h N post := by
  obtain ⟨C, s0, s1, s2⟩ := id hS
  have hd1 : 1 ≤ d := by omega
  have ln := lane_nothing hl
  refine MC.of (L0 := [some (.ref s), some (.ref F), some (.int l), some (.int f), some (.int (nI m)), none, none, none]) gd_X2_tell (Nat.le_of_ble_eq_true rfl) rfl (MW.run gd_X2_tell [29] 20 ?_)
  by_cases c1 : sh.1 = -4
  · have f1 : (laneC sh.1 = -1) = True := eq_true (ln.mpr c1)
    simp (disch := omega) only [↓EVk, ↓w_if_eq, ↓w_an_ite, ↓mEndK, ↓w_retK0, ↓w_fitK, ↓w_dupK, ↓w_dup2K, w_an_back, ↓EVd, ↓ft_X2_tell, ↓reduceIte, ↓EV_obs, ↓EV_obn, ↓EV_ais, ↓EV_ain, ↓EV_ob s0, mdF, mRun, List.mem_cons, List.not_mem_nil, or_false, mtab_eq, Nat.reduceEqDiff, Nat.zero_add, f1, mset2, b10, b00, not_true_eq_false, not_false_eq_true, true_implies, false_implies, implies_true, and_true, true_and, Nat.le_refl, true_or, or_true, eq_self, List.length_cons, List.length_nil, Nat.reduceAdd, Nat.reduceLT, Nat.reduceLeDiff]
    exact hp1 c1
  have f1 : (laneC sh.1 = -1) = False := eq_false (fun z => c1 (ln.mp z))
  have elc : laneC sh.1 = sh.1 := if_neg c1
  by_cases c2 : sh.1 = l
  case neg =>
    have f2 : (laneC sh.1 = l) = False := eq_false (by rw [elc]; exact c2)
    simp (disch := omega) only [↓EVk, ↓w_if_eq, ↓w_an_ite, ↓mEndK, ↓w_retK0, ↓w_fitK, ↓w_dupK, ↓w_dup2K, w_an_back, ↓EVd, ↓ft_X2_tell, ↓reduceIte, ↓EV_obs, ↓EV_obn, ↓EV_ais, ↓EV_ain, ↓EV_ob s0, mdF, mRun, List.mem_cons, List.not_mem_nil, or_false, mtab_eq, Nat.reduceEqDiff, Nat.zero_add, f1, f2, mset2, b10, b00, not_true_eq_false, not_false_eq_true, true_implies, false_implies, implies_true, and_true, true_and, Nat.le_refl, true_or, or_true, eq_self, List.length_cons, List.length_nil, Nat.reduceAdd, Nat.reduceLT, Nat.reduceLeDiff]
    exact hp2 c1 c2
  have f2 : (laneC sh.1 = l) = True := eq_true (by rw [elc]; exact c2)
  replace hp3 := hp3 c1 c2
  replace hp4 := hp4 c1 c2
  replace hp0 := hp0 c1 c2
  obtain ⟨K, P, A, n, x, hC⟩ := hFA
  have fr0 := hC.1
  simp (disch := omega) only [↓EVk, ↓w_if_eq, ↓w_an_ite, ↓mEndK, ↓w_retK0, ↓w_fitK, ↓w_dupK, ↓w_dup2K, w_an_back, ↓EVd, ↓ft_X2_tell, ↓reduceIte, ↓EV_obs, ↓EV_obn, ↓EV_ais, ↓EV_ain, ↓EV_ob s0, ↓EV_ob fr0, mdF, mRun, List.mem_cons, List.not_mem_nil, or_false, mtab_eq, Nat.reduceEqDiff, Nat.zero_add, f1, f2, hd1, mset2, b10, b00, not_true_eq_false, not_false_eq_true, true_implies, false_implies, implies_true, and_true, true_and, Nat.le_refl, true_or, or_true, eq_self, List.length_cons, List.length_nil, Nat.reduceAdd, Nat.reduceLT, Nat.reduceLeDiff]
  refine t_clear hC (fun h1 hC1 hk1 => ?_)
  have hR1 := clear_R (h := h) hC1
  simp (disch := omega) only [↓EVi, ↓EVc, ↓ft_X2_tell, ↓reduceIte, ↓EV_obs, ↓EV_obn, ↓EV_ais, ↓EV_ain, mdF, mRun, List.mem_cons, List.not_mem_nil, or_false, mtab_eq, Nat.reduceEqDiff, Nat.zero_add, mset2, b10, b00, not_true_eq_false, not_false_eq_true, true_implies, false_implies, implies_true, and_true, true_and, Nat.le_refl, true_or, or_true, eq_self, List.length_cons, List.length_nil, Nat.reduceAdd, Nat.reduceLT, Nat.reduceLeDiff]
  refine MW.upto m (fun i L h' => ∃ es x6, L = [some (.ref s), some (.ref F), some (.int l), some (.int f), some (.int (nI m)), some (.int (nI i)), x6, none] ∧ FrontR h' G F es ∧ es.length = i ∧ drawL sh.2.2 sh.2.1 f.toInt m 0 [] = drawL sh.2.2 sh.2.1 f.toInt (m - i) i es ∧ mKeep h h' F (F + 3)) ?_ ?_ 0 _ _ (Nat.zero_le _) ⟨[], none, rfl, hR1, rfl, rfl, hk1⟩
  · rintro i L h' hi ⟨es, x6, rfl, hF, hlen, hdr, hk⟩ ih
    have hS' := SR_eq (eqO_of hk (by omega)) hS
    obtain ⟨C', q0, q1, q2⟩ := hS'
    obtain ⟨hv, Kf, Pf, Af, ⟨fr1, -⟩, -⟩ := id hF
    have g1 : (nI m ≤ nI i) = False := eq_false (by simp (disch := omega) only [z_nI, z_lit, z_neg, z_add, z_sub, z_mul, z_lt, z_le, z_eq, z_in, z_cl]; omega)
    have eW := toL_sum f i (by omega)
    refine MW.run1 gd_X2_tell [29, 46] 14 ?_
    simp (disch := omega) only [↓EVk, ↓w_if_eq, ↓w_an_ite, ↓mEndK, ↓w_retK0, ↓w_fitK, ↓w_dupK, ↓w_dup2K, w_an_back, ↓EVd, ↓ft_X2_tell, ↓reduceIte, ↓EV_obs, ↓EV_obn, ↓EV_ais, ↓EV_ain, mdF, mRun, List.mem_cons, List.not_mem_nil, or_false, mtab_eq, Nat.reduceEqDiff, Nat.zero_add, g1, mset2, b10, b00, not_true_eq_false, not_false_eq_true, true_implies, false_implies, implies_true, and_true, true_and, Nat.le_refl, true_or, or_true, eq_self, List.length_cons, List.length_nil, Nat.reduceAdd, Nat.reduceLT, Nat.reduceLeDiff]
    generalize f.toInt64 + (2 * nI i).toInt64 = W at *
    rw [show m - i = (m - (i + 1)) + 1 by omega, drawL_succ] at hdr
    have b1 := Int32.le_toInt f
    have b2 := Int32.toInt_lt f
    have eZ : (W < 0) ↔ f.toInt + 2 * (i : Int) < 0 := by
      rw [Int64.lt_iff_toInt_lt, eW]
      exact Iff.rfl
    have eY : (W + 1 < (nI sh.2.1).toInt64) ↔ f.toInt + 2 * (i : Int) + 1 < (sh.2.1 : Int) := by
      rw [Int64.lt_iff_toInt_lt, Int64.toInt_add, eW, Int32.toInt_toInt64, nI_toInt (by omega), show (1 : Int64).toInt = 1 from rfl, Int.bmod_eq_of_le (by omega) (by omega)]
    have bad12 : ¬ (0 ≤ f.toInt + 2 * (i : Int) ∧ f.toInt + 2 * (i : Int) + 1 < (sh.2.1 : Int)) → post (some (.int (-12))) h' := by
      intro z
      rw [if_neg z] at hdr
      exact hp3 _ hdr h' (FR_A hF) hk
    have go : (0 ≤ f.toInt + 2 * (i : Int) ∧ f.toInt + 2 * (i : Int) + 1 < (sh.2.1 : Int)) → MW G MX2_tell (mz G d 0 0 post) 69 [some (.ref s), some (.ref F), some (.int l), some (.int f), some (.int (nI m)), some (.int (nI i)), some (.long W), none] [] h' (N, 0, 0) := by
      intro cw
      rw [if_pos cw] at hdr
      have eW2 : W.toInt32 = nI (f.toInt + 2 * (i : Int)).toNat := by
        rw [← Int32.toInt_inj, Int64.toInt_toInt32, eW, nI_toInt (by omega), Int.bmod_eq_of_le (by omega) (by omega)]
        omega
      generalize hw : (f.toInt + 2 * (i : Int)).toNat = w at *
      have hw60 : w + 1 < sh.2.1 := by omega
      have k1 : (nI w).toNatClampNeg = w := nI_clamp (by omega)
      have k2 : (nI w + 1).toNatClampNeg = w + 1 := by rw [nI_1]; exact nI_clamp (by omega)
      have v1 : vp_in (nI w) 62 := vp_in_nI (by omega) (by decide)
      have v2 : vp_in (nI w + 1) 62 := by rw [nI_1]; exact vp_in_nI (by omega) (by decide)
      have v1' : vp_in W.toInt32 62 := by rw [eW2]; exact v1
      have e1 : C' w = sh.2.2 w := q2 w (by omega)
      have e2 : C' (w + 1) = sh.2.2 (w + 1) := q2 (w + 1) (by omega)
      refine MW.run1 gd_X2_tell [29] 24 ?_
      simp (disch := omega) only [↓EVk, ↓w_if_eq, ↓w_an_ite, ↓mEndK, ↓w_retK0, ↓w_fitK, ↓w_dupK, ↓w_dup2K, w_an_back, ↓EVd, ↓ft_X2_tell, ↓reduceIte, ↓EV_obs, ↓EV_obn, ↓EV_ais, ↓EV_ain, ↓EV_ob q0, ↓EV_ob fr1, ↓EV_ai q1, mdF, mRun, List.mem_cons, List.not_mem_nil, or_false, mtab_eq, Nat.reduceEqDiff, Nat.zero_add, eW2, k1, k2, v1, v2, v1', e1, e2, hd1, mset2, b10, b00, not_true_eq_false, not_false_eq_true, true_implies, false_implies, implies_true, and_true, true_and, Nat.le_refl, true_or, or_true, eq_self, List.length_cons, List.length_nil, Nat.reduceAdd, Nat.reduceLT, Nat.reduceLeDiff]
      refine c_append hF (by omega) (fun no => ?_) (fun k' p' e3 e4 ok h2 hF2 hk2 => ?_)
      · simp (disch := omega) only [↓EVk, ↓w_if_eq, ↓w_an_ite, ↓mEndK, ↓w_retK0, ↓w_fitK, ↓w_dupK, ↓w_dup2K, w_an_back, ↓EVd, ↓ft_X2_tell, ↓reduceIte, ↓EV_obs, ↓EV_obn, ↓EV_ais, ↓EV_ain, mdF, mRun, List.mem_cons, List.not_mem_nil, or_false, mtab_eq, Nat.reduceEqDiff, Nat.zero_add, mset2, b10, b00, not_true_eq_false, not_false_eq_true, true_implies, false_implies, implies_true, and_true, true_and, Nat.le_refl, true_or, or_true, eq_self, List.length_cons, List.length_nil, Nat.reduceAdd, Nat.reduceLT, Nat.reduceLeDiff]
        have no' : ¬ okAt es (sh.2.2 w) (sh.2.2 (w + 1)) := no
        rw [if_neg no'] at hdr
        exact hp3 _ hdr h' (FR_A hF) hk
      · have ok' : okAt es (sh.2.2 w) (sh.2.2 (w + 1)) := ⟨k', p', e3, e4, ok⟩
        rw [if_pos ok'] at hdr
        obtain ⟨r1, r2, r3⟩ := okAt_small hv ok'
        have ek : (sh.2.2 w).toNatClampNeg = k' ∧ (sh.2.2 (w + 1)).toNatClampNeg = p' := by
          have o1 := ok.1
          have bv := vld_bd hv
          have o2 : p' ≤ 10 := by
            have := ok.2.2.2.2
            split at this <;> omega
          rw [e3, e4, nI_clamp (by omega), nI_clamp (by omega)]
          exact ⟨rfl, rfl⟩
        rw [ek.1, ek.2] at hdr
        simp (disch := omega) only [↓EVk, ↓w_if_eq, ↓w_an_ite, ↓mEndK, ↓w_retK0, ↓w_fitK, ↓w_dupK, ↓w_dup2K, w_an_back, ↓EVd, ↓ft_X2_tell, ↓reduceIte, ↓EV_obs, ↓EV_obn, ↓EV_ais, ↓EV_ain, mdF, mRun, List.mem_cons, List.not_mem_nil, or_false, mtab_eq, Nat.reduceEqDiff, Nat.zero_add, mset2, b10, b00, not_true_eq_false, not_false_eq_true, true_implies, false_implies, implies_true, and_true, true_and, Nat.le_refl, true_or, or_true, eq_self, List.length_cons, List.length_nil, Nat.reduceAdd, Nat.reduceLT, Nat.reduceLeDiff]
        rw [nI_1]
        exact ih _ _ ⟨_, _, rfl, hF2, by simp [hlen], hdr, mKeep_trans hk hk2⟩
    refine MW.run1 gd_X2_tell [29, 69] 24 ?_
    simp (disch := omega) only [↓EVi, ↓EVc, ↓ft_X2_tell, ↓reduceIte, ↓EV_obs, ↓EV_obn, ↓EV_ais, ↓EV_ain, ↓EV_ob q0, mdF, mRun, List.mem_cons, List.not_mem_nil, or_false, mtab_eq, Nat.reduceEqDiff, Nat.zero_add, lg_cmp_lt, mset2, b10, b00, not_true_eq_false, not_false_eq_true, true_implies, false_implies, implies_true, and_true, true_and, Nat.le_refl, true_or, or_true, eq_self, List.length_cons, List.length_nil, Nat.reduceAdd, Nat.reduceLT, Nat.reduceLeDiff]
    refine ⟨fun z => bad12 (fun y => by have := eZ.mp z; omega), fun z => ⟨fun z2 => go ⟨?_, eY.mp z2⟩, fun z2 => bad12 (fun y => z2 (eY.mpr y.2))⟩⟩
    have : ¬ f.toInt + 2 * (i : Int) < 0 := fun y => z (eZ.mpr y)
    omega
  · rintro L h' ⟨es, x6, rfl, hF, hlen, hdr, hk⟩
    have g1 : (nI m ≤ nI m) = True := eq_true (nI_le (Nat.le_refl _) (by omega))
    obtain ⟨hv, Kf, Pf, Af, hCf, hKP, hAf⟩ := id hF
    have fr1 := hCf.1
    have b := vld_bd hv
    rw [Nat.sub_self, drawL_zero] at hdr
    refine MW.run1 gd_X2_tell [29] 10 ?_
    simp (disch := omega) only [↓EVk, ↓w_if_eq, ↓w_an_ite, ↓mEndK, ↓w_retK0, ↓w_fitK, ↓w_dupK, ↓w_dup2K, w_an_back, ↓EVd, ↓ft_X2_tell, ↓reduceIte, ↓EV_obs, ↓EV_obn, ↓EV_ais, ↓EV_ain, ↓EV_ob fr1, mdF, mRun, List.mem_cons, List.not_mem_nil, or_false, mtab_eq, Nat.reduceEqDiff, Nat.zero_add, g1, hd1, mset2, b10, b00, not_true_eq_false, not_false_eq_true, true_implies, false_implies, implies_true, and_true, true_and, Nat.le_refl, true_or, or_true, eq_self, List.length_cons, List.length_nil, Nat.reduceAdd, Nat.reduceLT, Nat.reduceLeDiff]
    have ecl : (nI es.length).toNatClampNeg = es.length := nI_clamp (by omega)
    refine t_isWhole hCf (vp_in_nI (by omega) (by decide)) ?_
    rw [ecl, hAf es.length (Nat.le_refl _), List.take_length]
    have n0 : ¬ nI es.length ≤ 0 := by simp (disch := omega) only [z_nI, z_lit, z_neg, z_add, z_sub, z_mul, z_lt, z_le, z_eq, z_in, z_cl]; omega
    rw [if_neg n0]
    have ea : (nI (ahL es) = 0) ↔ ¬ 0 < ahL es := by
      have : (nI (ahL es) = 0) ↔ ahL es = 0 := nI_eq (b := 0) (by omega) (by omega)
      rw [this]
      omega
    by_cases c : 0 < ahL es
    · rw [if_neg (fun z => ea.mp z c)]
      simp (disch := omega) only [↓EVk, ↓w_if_eq, ↓w_an_ite, ↓mEndK, ↓w_retK0, ↓w_fitK, ↓w_dupK, ↓w_dup2K, w_an_back, ↓EVd, ↓ft_X2_tell, ↓reduceIte, ↓EV_obs, ↓EV_obn, ↓EV_ais, ↓EV_ain, mdF, mRun, List.mem_cons, List.not_mem_nil, or_false, mtab_eq, Nat.reduceEqDiff, Nat.zero_add, mset2, b10, b00, not_true_eq_false, not_false_eq_true, true_implies, false_implies, implies_true, and_true, true_and, Nat.le_refl, true_or, or_true, eq_self, List.length_cons, List.length_nil, Nat.reduceAdd, Nat.reduceLT, Nat.reduceLeDiff]
      exact hp4 es hdr c h' (FR_A hF) hk
    · rw [if_pos (ea.mpr c)]
      simp (disch := omega) only [↓EVk, ↓w_if_eq, ↓w_an_ite, ↓mEndK, ↓w_retK0, ↓w_fitK, ↓w_dupK, ↓w_dup2K, w_an_back, ↓EVd, ↓ft_X2_tell, ↓reduceIte, ↓EV_obs, ↓EV_obn, ↓EV_ais, ↓EV_ain, mdF, mRun, List.mem_cons, List.not_mem_nil, or_false, mtab_eq, Nat.reduceEqDiff, Nat.zero_add, mset2, b10, b00, not_true_eq_false, not_false_eq_true, true_implies, false_implies, implies_true, and_true, true_and, Nat.le_refl, true_or, or_true, eq_self, List.length_cons, List.length_nil, Nat.reduceAdd, Nat.reduceLT, Nat.reduceLeDiff]
      exact hp0 es hdr c (fun z => by rw [z] at hlen; simp at hlen; omega) h' hF hk
theorem draw_vld {c : Nat → Int32} {sz : Nat} {f : Int} : ∀ (n i : Nat) (es ds : List Ev), vld es → drawL c sz f n i es = .inr ds → vld ds
  | 0, i, es, ds, hv, e => by
    rw [drawL_zero] at e
    cases e
    exact hv
  | n + 1, i, es, ds, hv, e => by
    rw [drawL_succ] at e
    by_cases c1 : 0 ≤ f + 2 * (i : Int) ∧ f + 2 * (i : Int) + 1 < (sz : Int)
    · rw [if_pos c1] at e
      by_cases c2 : okAt es (c (f + 2 * (i : Int)).toNat) (c ((f + 2 * (i : Int)).toNat + 1))
      · rw [if_pos c2] at e
        exact draw_vld n (i + 1) _ ds (vld_snoc hv (okAt_small hv c2).2.2) e
      · rw [if_neg c2] at e
        cases e
    · rw [if_neg c1] at e
      cases e
theorem draw_ne {c : Nat → Int32} {sz : Nat} {f : Int} : ∀ (n i : Nat) (es : List Ev) (r : Int32), i + n ≤ 30 → drawL c sz f n i es = .inl r → ¬ r = 0
  | 0, i, es, r, hn, e => by
    rw [drawL_zero] at e
    cases e
  | n + 1, i, es, r, hn, e => by
    rw [drawL_succ] at e
    by_cases c1 : 0 ≤ f + 2 * (i : Int) ∧ f + 2 * (i : Int) + 1 < (sz : Int)
    · rw [if_pos c1] at e
      by_cases c2 : okAt es (c (f + 2 * (i : Int)).toNat) (c ((f + 2 * (i : Int)).toNat + 1))
      · rw [if_pos c2] at e
        exact draw_ne n (i + 1) _ r (by omega) e
      · rw [if_neg c2] at e
        rw [← Sum.inl.inj e]
        simp (disch := omega) only [z_nI, z_lit, z_neg, z_add, z_sub, z_mul, z_lt, z_le, z_eq, z_in, z_cl]
        omega
    · rw [if_neg c1] at e
      rw [← Sum.inl.inj e]
      decide
set_option maxRecDepth 10000 in
theorem X_draw {k l f n : Int32} (hd : 5 ≤ d) (hI : SInv S) (hX : XR h G B S) (hp : ∀ h', XR h' G B (aDraw k l f n S).2 → mKeep h h' B (B + 136) → post (some (.int (aDraw k l f n S).1)) h') : MC G MX6_draw d 0 0 [.ref B, .int k, .int l, .int f, .int n] h N post := by
  have h0 := hX.1
  have hsa := hX.2.2.1
  have hd1 : 1 ≤ d := by omega
  unfold aDraw at hp
  refine MC.of (L0 := [some (.ref B), some (.int k), some (.int l), some (.int f), some (.int n), none]) gd_X6_draw (Nat.le_of_ble_eq_true rfl) rfl (MW.run gd_X6_draw [29, 48] 30 ?_)
  simp (disch := omega) only [↓EVi, ↓EVc, ↓ft_X6_draw, ↓reduceIte, ↓EV_obs, ↓EV_obn, ↓EV_ais, ↓EV_ain, ↓EV_ob h0, mdF, mRun, List.mem_cons, List.not_mem_nil, or_false, mtab_eq, Nat.reduceEqDiff, Nat.zero_add, xO, hd1, mset2, b10, b00, not_true_eq_false, not_false_eq_true, true_implies, false_implies, implies_true, and_true, true_and, Nat.le_refl, true_or, or_true, eq_self, List.length_cons, List.length_nil, Nat.reduceAdd, Nat.reduceLT, Nat.reduceLeDiff]
  refine x_isSheet ?_
  by_cases c1 : 0 ≤ k ∧ k ≤ 3
  case neg =>
    rw [if_neg (fun z => c1 z.1)] at hp
    rw [if_neg c1]
    simp (disch := omega) only [↓EVi, ↓EVc, ↓ft_X6_draw, ↓reduceIte, ↓EV_obs, ↓EV_obn, ↓EV_ais, ↓EV_ain, ↓EV_ob h0, mdF, mRun, List.mem_cons, List.not_mem_nil, or_false, mtab_eq, Nat.reduceEqDiff, Nat.zero_add, xO, hd1, mset2, b10, b00, not_true_eq_false, not_false_eq_true, true_implies, false_implies, implies_true, and_true, true_and, Nat.le_refl, true_or, or_true, eq_self, List.length_cons, List.length_nil, Nat.reduceAdd, Nat.reduceLT, Nat.reduceLeDiff]
    exact hp h hX mKeep_rfl
  rw [if_pos c1]
  simp (disch := omega) only [↓EVi, ↓EVc, ↓ft_X6_draw, ↓reduceIte, ↓EV_obs, ↓EV_obn, ↓EV_ais, ↓EV_ain, ↓EV_ob h0, mdF, mRun, List.mem_cons, List.not_mem_nil, or_false, mtab_eq, Nat.reduceEqDiff, Nat.zero_add, xO, hd1, mset2, b10, b00, not_true_eq_false, not_false_eq_true, true_implies, false_implies, implies_true, and_true, true_and, Nat.le_refl, true_or, or_true, eq_self, List.length_cons, List.length_nil, Nat.reduceAdd, Nat.reduceLT, Nat.reduceLeDiff]
  refine x_isLane ?_
  by_cases c2 : 0 ≤ l ∧ l ≤ 2
  case neg =>
    rw [if_neg (fun z => c2 z.2.1)] at hp
    rw [if_neg c2]
    simp (disch := omega) only [↓EVi, ↓EVc, ↓ft_X6_draw, ↓reduceIte, ↓EV_obs, ↓EV_obn, ↓EV_ais, ↓EV_ain, ↓EV_ob h0, mdF, mRun, List.mem_cons, List.not_mem_nil, or_false, mtab_eq, Nat.reduceEqDiff, Nat.zero_add, xO, hd1, mset2, b10, b00, not_true_eq_false, not_false_eq_true, true_implies, false_implies, implies_true, and_true, true_and, Nat.le_refl, true_or, or_true, eq_self, List.length_cons, List.length_nil, Nat.reduceAdd, Nat.reduceLT, Nat.reduceLeDiff]
    exact hp h hX mKeep_rfl
  rw [if_pos c2]
  simp (disch := omega) only [↓EVi, ↓EVc, ↓ft_X6_draw, ↓reduceIte, ↓EV_obs, ↓EV_obn, ↓EV_ais, ↓EV_ain, ↓EV_ob h0, mdF, mRun, List.mem_cons, List.not_mem_nil, or_false, mtab_eq, Nat.reduceEqDiff, Nat.zero_add, xO, hd1, mset2, b10, b00, not_true_eq_false, not_false_eq_true, true_implies, false_implies, implies_true, and_true, true_and, Nat.le_refl, true_or, or_true, eq_self, List.length_cons, List.length_nil, Nat.reduceAdd, Nat.reduceLT, Nat.reduceLeDiff]
  refine ⟨fun c3 => ?_, fun c3 => ⟨fun c4 => ?_, fun c4 => ?_⟩⟩
  · rw [if_neg (fun z => absurd z.2.2.1 (by rw [Int32.not_le]; exact c3))] at hp
    exact hp h hX mKeep_rfl
  case refine_3 =>
    rw [if_neg (fun z => c4 z.2.2.2)] at hp
    exact hp h hX mKeep_rfl
  have c3' : 1 ≤ n := by rw [← Int32.not_lt]; exact c3
  rw [if_pos ⟨c1, c2, c3', c4⟩] at hp
  obtain ⟨q, hq, rfl⟩ := arg_le k 3 (by decide) c1
  obtain ⟨m, hm, rfl⟩ := arg_le n 30 (by decide) ⟨Int32.le_trans (by decide) c3', c4⟩
  obtain ⟨r, hr, rfl⟩ := arg_le l 2 (by decide) c2
  have hm1 : 1 ≤ m := by
    have : nI 1 ≤ nI m := c3'
    exact (nI_leI (by omega) (by omega)).mp this
  have hcq : (nI q).toNatClampNeg = q := nI_clamp (by omega)
  have vq : vp_in (nI q) 4 := vp_in_nI (by omega) (by decide)
  have hS := hX.2.2.2.2.2.2.2.2.1 q (by omega)
  obtain ⟨hl, hsz⟩ := hI.2.2.2.2.2 q (by omega)
  obtain ⟨C, s0, s1, s2⟩ := id hS
  have s0' : h (xS B (nI q).toNatClampNeg) = some (.inr (2, [.ref (xS B q + 1), .int (laneC (S.2.2.2 q).1), .int (nI (S.2.2.2 q).2.1)])) := by rw [hcq]; exact s0
  rw [hcq, nI_clamp (n := m) (by omega)] at hp
  refine MW.run1 gd_X6_draw [48] 20 ?_
  simp (disch := omega) only [↓EVi, ↓EVc, ↓ft_X6_draw, ↓reduceIte, ↓EV_obs, ↓EV_obn, ↓EV_ais, ↓EV_ain, ↓EV_ob h0, ↓EV_ob s0', ↓EV_ar hsa, ↓EV_arn, mdF, mRun, List.mem_cons, List.not_mem_nil, or_false, mtab_eq, Nat.reduceEqDiff, Nat.zero_add, xO, hd1, vq, mset2, b10, b00, not_true_eq_false, not_false_eq_true, true_implies, false_implies, implies_true, and_true, true_and, Nat.le_refl, true_or, or_true, eq_self, List.length_cons, List.length_nil, Nat.reduceAdd, Nat.reduceLT, Nat.reduceLeDiff]
  rw [hcq]
  -- the answer told on
  have tl : ∀ (y : Int32) (h1 : mH), ¬ y = 0 → post (some (.int y)) h1 → MW G MX6_draw (mz G d 0 0 post) 48 [some (.ref B), some (.int (nI q)), some (.int (nI r)), some (.int f), some (.int (nI m)), some (.int y)] [] h1 (N, 0, 0) := by
    intro y h1 hy hpp
    have f1 : (y = 0) = False := eq_false hy
    refine MW.run1 gd_X6_draw [] 12 ?_
    simp (disch := omega) only [↓EVk, ↓w_if_eq, ↓w_an_ite, ↓mEndK, ↓w_retK0, ↓w_fitK, ↓w_dupK, ↓w_dup2K, w_an_back, ↓EVd, ↓ft_X6_draw, ↓reduceIte, ↓EV_obs, ↓EV_obn, ↓EV_ais, ↓EV_ain, mdF, mRun, List.mem_cons, List.not_mem_nil, or_false, mtab_eq, Nat.reduceEqDiff, Nat.zero_add, f1, mset2, b10, b00, not_true_eq_false, not_false_eq_true, true_implies, false_implies, implies_true, and_true, true_and, Nat.le_refl, true_or, or_true, eq_self, List.length_cons, List.length_nil, Nat.reduceAdd, Nat.reduceLT, Nat.reduceLeDiff]
    exact hpp
  have wide : ∀ {h1 h2 : mH}, mKeep h1 h2 (B + 5) (B + 5 + 3) → mKeep h1 h2 B (B + 136) := fun z => mKeep_in z (by omega) (by omega)
  refine s_tell (by omega) (by unfold xS; omega) hS hl (by rcases (by omega : r = 0 ∨ r = 1 ∨ r = 2) with e | e | e <;> rw [e]; exact Or.inl rfl; exact Or.inr (Or.inl rfl); exact Or.inr (Or.inr rfl)) hsz hX.2.2.2.2.1 hm1 hm (fun z => ?_) (fun z1 z2 => ?_) (fun z1 z2 y e h1 hF1 hk1 => ?_) (fun z1 z2 es e ha h1 hF1 hk1 => ?_) (fun z1 z2 es e ha hne h1 hF1 hk1 => ?_)
  · rw [if_pos z] at hp
    simp (disch := omega) only [↓EVi, ↓EVc, ↓ft_X6_draw, ↓reduceIte, ↓EV_obs, ↓EV_obn, ↓EV_ais, ↓EV_ain, mdF, mRun, List.mem_cons, List.not_mem_nil, or_false, mtab_eq, Nat.reduceEqDiff, Nat.zero_add, mset2, b10, b00, not_true_eq_false, not_false_eq_true, true_implies, false_implies, implies_true, and_true, true_and, Nat.le_refl, true_or, or_true, eq_self, List.length_cons, List.length_nil, Nat.reduceAdd, Nat.reduceLT, Nat.reduceLeDiff]
    exact tl (-11) h (by decide) (hp h hX mKeep_rfl)
  · rw [if_neg z1, if_neg z2] at hp
    simp (disch := omega) only [↓EVi, ↓EVc, ↓ft_X6_draw, ↓reduceIte, ↓EV_obs, ↓EV_obn, ↓EV_ais, ↓EV_ain, mdF, mRun, List.mem_cons, List.not_mem_nil, or_false, mtab_eq, Nat.reduceEqDiff, Nat.zero_add, mset2, b10, b00, not_true_eq_false, not_false_eq_true, true_implies, false_implies, implies_true, and_true, true_and, Nat.le_refl, true_or, or_true, eq_self, List.length_cons, List.length_nil, Nat.reduceAdd, Nat.reduceLT, Nat.reduceLeDiff]
    exact tl (-13) h (by decide) (hp h hX mKeep_rfl)
  · rw [if_neg z1, if_pos z2, e] at hp
    simp (disch := omega) only [↓EVi, ↓EVc, ↓ft_X6_draw, ↓reduceIte, ↓EV_obs, ↓EV_obn, ↓EV_ais, ↓EV_ain, mdF, mRun, List.mem_cons, List.not_mem_nil, or_false, mtab_eq, Nat.reduceEqDiff, Nat.zero_add, mset2, b10, b00, not_true_eq_false, not_false_eq_true, true_implies, false_implies, implies_true, and_true, true_and, Nat.le_refl, true_or, or_true, eq_self, List.length_cons, List.length_nil, Nat.reduceAdd, Nat.reduceLT, Nat.reduceLeDiff]
    exact tl y h1 (draw_ne m 0 [] y (by omega) e) (hp h1 (XR_draft hX hk1 hF1) (wide hk1))
  · rw [if_neg z1, if_pos z2, e] at hp
    simp only [if_pos ha] at hp
    simp (disch := omega) only [↓EVi, ↓EVc, ↓ft_X6_draw, ↓reduceIte, ↓EV_obs, ↓EV_obn, ↓EV_ais, ↓EV_ain, mdF, mRun, List.mem_cons, List.not_mem_nil, or_false, mtab_eq, Nat.reduceEqDiff, Nat.zero_add, mset2, b10, b00, not_true_eq_false, not_false_eq_true, true_implies, false_implies, implies_true, and_true, true_and, Nat.le_refl, true_or, or_true, eq_self, List.length_cons, List.length_nil, Nat.reduceAdd, Nat.reduceLT, Nat.reduceLeDiff]
    exact tl (-50) h1 (by decide) (hp h1 (XR_draft hX hk1 hF1) (wide hk1))
  · rw [if_neg z1, if_pos z2, e] at hp
    simp only [if_neg ha] at hp
    have hX1 := XR_draft hX hk1 (FR_A hF1)
    simp (disch := omega) only [↓EVi, ↓EVc, ↓ft_X6_draw, ↓reduceIte, ↓EV_obs, ↓EV_obn, ↓EV_ais, ↓EV_ain, mdF, mRun, List.mem_cons, List.not_mem_nil, or_false, mtab_eq, Nat.reduceEqDiff, Nat.zero_add, mset2, b10, b00, not_true_eq_false, not_false_eq_true, true_implies, false_implies, implies_true, and_true, true_and, Nat.le_refl, true_or, or_true, eq_self, List.length_cons, List.length_nil, Nat.reduceAdd, Nat.reduceLT, Nat.reduceLeDiff]
    refine MW.run1 gd_X6_draw [] 12 ?_
    simp (disch := omega) only [↓EVk, ↓w_if_eq, ↓w_an_ite, ↓mEndK, ↓w_retK0, ↓w_fitK, ↓w_dupK, ↓w_dup2K, w_an_back, ↓EVd, ↓ft_X6_draw, ↓reduceIte, ↓EV_obs, ↓EV_obn, ↓EV_ais, ↓EV_ain, ↓EV_ob hX1.1, mdF, mRun, List.mem_cons, List.not_mem_nil, or_false, mtab_eq, Nat.reduceEqDiff, Nat.zero_add, xO, hd1, mset2, b10, b00, not_true_eq_false, not_false_eq_true, true_implies, false_implies, implies_true, and_true, true_and, Nat.le_refl, true_or, or_true, eq_self, List.length_cons, List.length_nil, Nat.reduceAdd, Nat.reduceLT, Nat.reduceLeDiff]
    refine x_keepDraft (by omega) hI hX1 hF1 (fun z8 => ?_) (fun z8 h2 hX2 hk2 => ?_)
    · simp (disch := omega) only [↓EVk, ↓w_if_eq, ↓w_an_ite, ↓mEndK, ↓w_retK0, ↓w_fitK, ↓w_dupK, ↓w_dup2K, w_an_back, ↓EVd, ↓ft_X6_draw, ↓reduceIte, ↓EV_obs, ↓EV_obn, ↓EV_ais, ↓EV_ain, mdF, mRun, List.mem_cons, List.not_mem_nil, or_false, mtab_eq, Nat.reduceEqDiff, Nat.zero_add, mset2, b10, b00, not_true_eq_false, not_false_eq_true, true_implies, false_implies, implies_true, and_true, true_and, Nat.le_refl, true_or, or_true, eq_self, List.length_cons, List.length_nil, Nat.reduceAdd, Nat.reduceLT, Nat.reduceLeDiff]
      rw [if_pos z8] at hp
      exact hp h1 hX1 (wide hk1)
    · simp (disch := omega) only [↓EVk, ↓w_if_eq, ↓w_an_ite, ↓mEndK, ↓w_retK0, ↓w_fitK, ↓w_dupK, ↓w_dup2K, w_an_back, ↓EVd, ↓ft_X6_draw, ↓reduceIte, ↓EV_obs, ↓EV_obn, ↓EV_ais, ↓EV_ain, mdF, mRun, List.mem_cons, List.not_mem_nil, or_false, mtab_eq, Nat.reduceEqDiff, Nat.zero_add, mset2, b10, b00, not_true_eq_false, not_false_eq_true, true_implies, false_implies, implies_true, and_true, true_and, Nat.le_refl, true_or, or_true, eq_self, List.length_cons, List.length_nil, Nat.reduceAdd, Nat.reduceLT, Nat.reduceLeDiff]
      rw [if_neg z8] at hp
      exact hp h2 hX2 (mKeep_trans (wide hk1) hk2)
end XS
