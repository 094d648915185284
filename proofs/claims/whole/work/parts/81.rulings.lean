/-! all rulings counted, the first one: the search's list against the model's -/
section RLP
variable {es : List Ev} {sort : Nat}
theorem mks_all (hw : whl es) : mks es (mayF es sort) es.length 0 (fun _ => 0) 0 0 = ((List.range (2 ^ crs es)).filter (rOk es sort)).map (fun s => enc (bitsL (crs es) s)) := by
  rw [rk_mks es.length 0 (fun _ => 0) 0 0 (fun y _ h2 => (vld_sm hw.1 (by omega)).1), crN_all, allB_eq, List.filter_map, List.map_map]
  refine List.map_congr_left (fun s _ => ?_)
  show 0 + 2 ^ 0 * enc (bitsL (crs es) s) = _
  rw [Nat.pow_zero, Nat.one_mul, Nat.zero_add]
theorem bits_len (c s : Nat) : (bitsL c s).length = c := by unfold bitsL; simp
theorem rcM_eq (n : Int32) : ∀ k, rcM es sort n k = (List.range k).countP (fun s => decide (rWant es sort n s))
  | 0 => rfl
  | k + 1 => by
    show rcM es sort n k + (if rWant es sort n k then 1 else 0) = _
    rw [List.range_succ, List.countP_append, rcM_eq n k, List.countP_singleton]
    by_cases c : rWant es sort n k
    · rw [if_pos c, if_pos (decide_eq_true c)]
    · rw [if_neg c, if_neg (by rw [decide_eq_false c]; decide)]
theorem fnd_all (hw : whl es) : (mks es (mayF es sort) es.length 0 (fun _ => 0) 0 0).length = rcM es sort (-1) (2 ^ crs es) := by
  rw [mks_all hw, List.length_map, rcM_eq, ← List.countP_eq_length_filter]
  refine List.countP_congr (fun s _ => ?_)
  rw [decide_eq_true_iff]
  exact ⟨fun z => ⟨z, Or.inl rfl⟩, fun z => z.1⟩
theorem cT_le {c s : Nat} (hc : c ≤ 12) : cT (bitsL c s) ≤ 12 := by
  have q1 : cT (bitsL c s) ≤ (bitsL c s).length := List.countP_le_length
  rw [bits_len] at q1
  omega
theorem fnd_by (hw : whl es) {k : Nat} (hk : k < 2 ^ 31) : (mks es (mayF es sort) es.length 0 (fun _ => 0) 0 0).countP (fun s => k == pcN 12 s) = rcM es sort (nI k) (2 ^ crs es) := by
  have b12 := (vld_bd hw.1).2.2
  rw [mks_all hw, List.countP_map, rcM_eq, List.countP_filter]
  refine List.countP_congr (fun s _ => ?_)
  have e : pcN 12 (enc (bitsL (crs es) s)) = cT (bitsL (crs es) s) := pcN_enc 12 _ (by rw [bits_len]; exact b12)
  have hc := cT_le (s := s) b12
  rw [decide_eq_true_iff, Bool.and_eq_true]
  show (k == pcN 12 (enc (bitsL (crs es) s))) = true ∧ _ ↔ _
  rw [e, beq_iff_eq]
  have n1 : ¬ nI k = -1 := by simp (disch := omega) only [z_nI, z_lit, z_neg, z_add, z_sub, z_mul, z_lt, z_le, z_eq, z_in, z_cl]; omega
  exact ⟨fun z => ⟨z.2, Or.inr (by rw [z.1])⟩, fun z => ⟨((nI_eq (by omega) hk).mp (z.2.resolve_left n1)).symm, z.1⟩⟩
theorem rc_le (n : Int32) (k : Nat) : rcM es sort n k ≤ k := by
  rw [rcM_eq]
  refine Nat.le_trans List.countP_le_length ?_
  rw [List.length_range]
  exact Nat.le_refl _
theorem rc_big (hw : whl es) {k : Nat} (h12 : 12 < k) (hk : k < 2 ^ 31) (m : Nat) : rcM es sort (nI k) m = 0 := by
  have b12 := (vld_bd hw.1).2.2
  rw [rcM_eq, List.countP_eq_zero]
  intro s _ z
  rw [decide_eq_true_iff] at z
  have hc := cT_le (s := s) b12
  have n1 : ¬ nI k = -1 := by simp (disch := omega) only [z_nI, z_lit, z_neg, z_add, z_sub, z_mul, z_lt, z_le, z_eq, z_in, z_cl]; omega
  have := (nI_eq (by omega) hk).mp (z.2.resolve_left n1)
  omega
theorem fsM_eq : ∀ k s, fsM es sort k s = (List.range' s k).find? (rOk es sort)
  | 0, s => rfl
  | k + 1, s => by
    show (if rOk es sort s = true then some s else fsM es sort k (s + 1)) = _
    rw [List.range'_succ, List.find?_cons, fsM_eq k (s + 1)]
    cases rOk es sort s <;> rfl
theorem fst_all (hw : whl es) : (mks es (mayF es sort) es.length 0 (fun _ => 0) 0 0).head? = (fsM es sort (2 ^ crs es) 0).map (fun s => enc (bitsL (crs es) s)) := by
  rw [mks_all hw, List.head?_map, List.head?_filter, fsM_eq, List.range_eq_range']
end RLP
section SWB
variable {h : mH} {G : mG} {Q W F : Nat} {es : List Ev} {sort : Nat} {d N : Nat} {post : Option Value → mH → Prop}
set_option maxRecDepth 10000 in
theorem s_isOfSort {i : Nat} (hd : 2 ≤ d) (hw : whl es) (hF : FrontR h G F es) (hW : WyR h G W F es) (hi : i < es.length) (hK : evK es i = 1) (hs : sort ≤ 2) (hp : post (some (.int (if mayF es sort i = true then 1 else 0))) h) : MC G MX3_isOfSort d 0 0 [.ref W, .int (nI sort), .int (nI i)] h N post := by
  have hd1 : 1 ≤ d := by omega
  obtain ⟨R, a, hB⟩ := WyR_B hW
  have h0 := hB.1.1
  have D := MW.dec (e := (.lookupswitch 35 #[(0, 27), (1, 29)], 28, 0, 0, 0, 0, 0)) (pc := 1) gd_X3_isOfSort rfl
  have em : mayF es sort i = (decide (evK es i = 1) && (decide (sort = 0) || (if sort = 1 then plus es i else decide (degV es i = 0)))) := rfl
  have dd : decide (evK es i = 1) = true := by simp [hK]
  rw [dd, Bool.true_and] at em
  rw [em] at hp
  refine MC.of (L0 := [some (.ref W), some (.int (nI sort)), some (.int (nI i))]) gd_X3_isOfSort (Nat.le_of_ble_eq_true rfl) rfl (MW.run gd_X3_isOfSort [1] 6 ?_)
  simp (disch := omega) only [↓EVi, ↓EVc, ↓ft_X3_isOfSort, ↓reduceIte, ↓EV_obs, ↓EV_obn, ↓EV_ais, ↓EV_ain, mdF, mRun, List.mem_cons, List.not_mem_nil, or_false, mtab_eq, Nat.reduceEqDiff, Nat.zero_add, mset2, b10, b00, not_true_eq_false, not_false_eq_true, true_implies, false_implies, implies_true, and_true, true_and, Nat.le_refl, true_or, or_true, eq_self, List.length_cons, List.length_nil, Nat.reduceAdd, Nat.reduceLT, Nat.reduceLeDiff]
  rcases (by omega : sort = 0 ∨ sort = 1 ∨ sort = 2) with rfl | rfl | rfl
  · refine MW.lsw (tgt := 28) (off := 27) D (by decide) rfl (by decide) (MW.run gd_X3_isOfSort [] 10 ?_)
    simp (disch := omega) only [↓EVi, ↓EVc, ↓ft_X3_isOfSort, ↓reduceIte, ↓EV_obs, ↓EV_obn, ↓EV_ais, ↓EV_ain, mdF, mRun, List.mem_cons, List.not_mem_nil, or_false, mtab_eq, Nat.reduceEqDiff, Nat.zero_add, mset2, b10, b00, not_true_eq_false, not_false_eq_true, true_implies, false_implies, implies_true, and_true, true_and, Nat.le_refl, true_or, or_true, eq_self, List.length_cons, List.length_nil, Nat.reduceAdd, Nat.reduceLT, Nat.reduceLeDiff]
    simpa using hp
  · refine MW.lsw (tgt := 30) (off := 29) D (by decide) rfl (by decide) (MW.run gd_X3_isOfSort [] 10 ?_)
    simp (disch := omega) only [↓EVi, ↓EVc, ↓ft_X3_isOfSort, ↓reduceIte, ↓EV_obs, ↓EV_obn, ↓EV_ais, ↓EV_ain, ↓EV_ob h0, mdF, mRun, List.mem_cons, List.not_mem_nil, or_false, mtab_eq, Nat.reduceEqDiff, Nat.zero_add, hd1, mset2, b10, b00, not_true_eq_false, not_false_eq_true, true_implies, false_implies, implies_true, and_true, true_and, Nat.le_refl, true_or, or_true, eq_self, List.length_cons, List.length_nil, Nat.reduceAdd, Nat.reduceLT, Nat.reduceLeDiff]
    refine w_isPlus (by omega) hw hF hW hi hK ?_
    have e1 : (decide ((1 : Nat) = 0) || (if (1 : Nat) = 1 then plus es i else decide (degV es i = 0))) = plus es i := by simp
    rw [e1] at hp
    cases hpl : plus es i with
    | true =>
      rw [hpl] at hp
      simp only [↓reduceIte] at hp ⊢
      simp (disch := omega) only [↓EVi, ↓EVc, ↓ft_X3_isOfSort, ↓reduceIte, ↓EV_obs, ↓EV_obn, ↓EV_ais, ↓EV_ain, mdF, mRun, List.mem_cons, List.not_mem_nil, or_false, mtab_eq, Nat.reduceEqDiff, Nat.zero_add, mset2, b10, b00, not_true_eq_false, not_false_eq_true, true_implies, false_implies, implies_true, and_true, true_and, Nat.le_refl, true_or, or_true, eq_self, List.length_cons, List.length_nil, Nat.reduceAdd, Nat.reduceLT, Nat.reduceLeDiff]
      exact hp
    | false =>
      rw [hpl] at hp
      simp only [Bool.false_eq_true, ↓reduceIte] at hp ⊢
      simp (disch := omega) only [↓EVi, ↓EVc, ↓ft_X3_isOfSort, ↓reduceIte, ↓EV_obs, ↓EV_obn, ↓EV_ais, ↓EV_ain, mdF, mRun, List.mem_cons, List.not_mem_nil, or_false, mtab_eq, Nat.reduceEqDiff, Nat.zero_add, mset2, b10, b00, not_true_eq_false, not_false_eq_true, true_implies, false_implies, implies_true, and_true, true_and, Nat.le_refl, true_or, or_true, eq_self, List.length_cons, List.length_nil, Nat.reduceAdd, Nat.reduceLT, Nat.reduceLeDiff]
      exact hp
  · refine MW.lsw (tgt := 36) (off := 35) D (by decide) rfl (by decide) (MW.run gd_X3_isOfSort [] 10 ?_)
    simp (disch := omega) only [↓EVi, ↓EVc, ↓ft_X3_isOfSort, ↓reduceIte, ↓EV_obs, ↓EV_obn, ↓EV_ais, ↓EV_ain, ↓EV_ob h0, mdF, mRun, List.mem_cons, List.not_mem_nil, or_false, mtab_eq, Nat.reduceEqDiff, Nat.zero_add, hd1, mset2, b10, b00, not_true_eq_false, not_false_eq_true, true_implies, false_implies, implies_true, and_true, true_and, Nat.le_refl, true_or, or_true, eq_self, List.length_cons, List.length_nil, Nat.reduceAdd, Nat.reduceLT, Nat.reduceLeDiff]
    refine w_levelStep (by omega) hw hF hW hi hK ?_
    have e1 : (decide ((2 : Nat) = 0) || (if (2 : Nat) = 1 then plus es i else decide (degV es i = 0))) = decide (degV es i = 0) := by simp
    rw [e1] at hp
    by_cases k3 : degV es i = 0
    · have g3 : (degV es i = 0) = True := eq_true k3
      rw [decide_eq_true k3] at hp
      simp only [↓reduceIte] at hp
      simp (disch := omega) only [↓EVk, ↓w_if_eq, ↓w_an_ite, ↓mEndK, ↓w_retK0, ↓w_fitK, ↓w_dupK, ↓w_dup2K, w_an_back, ↓EVd, ↓ft_X3_isOfSort, ↓reduceIte, ↓EV_obs, ↓EV_obn, ↓EV_ais, ↓EV_ain, mdF, mRun, List.mem_cons, List.not_mem_nil, or_false, mtab_eq, Nat.reduceEqDiff, Nat.zero_add, g3, mset2, b10, b00, not_true_eq_false, not_false_eq_true, true_implies, false_implies, implies_true, and_true, true_and, Nat.le_refl, true_or, or_true, eq_self, List.length_cons, List.length_nil, Nat.reduceAdd, Nat.reduceLT, Nat.reduceLeDiff]
      exact hp
    · have g3 : (degV es i = 0) = False := eq_false k3
      rw [decide_eq_false k3] at hp
      simp only [Bool.false_eq_true, ↓reduceIte] at hp
      simp (disch := omega) only [↓EVk, ↓w_if_eq, ↓w_an_ite, ↓mEndK, ↓w_retK0, ↓w_fitK, ↓w_dupK, ↓w_dup2K, w_an_back, ↓EVd, ↓ft_X3_isOfSort, ↓reduceIte, ↓EV_obs, ↓EV_obn, ↓EV_ais, ↓EV_ain, mdF, mRun, List.mem_cons, List.not_mem_nil, or_false, mtab_eq, Nat.reduceEqDiff, Nat.zero_add, g3, mset2, b10, b00, not_true_eq_false, not_false_eq_true, true_implies, false_implies, implies_true, and_true, true_and, Nat.le_refl, true_or, or_true, eq_self, List.length_cons, List.length_nil, Nat.reduceAdd, Nat.reduceLT, Nat.reduceLeDiff]
      exact hp
def ns0 : NS := (0, 0, fun _ => 0)
set_option maxRecDepth 10000 in
theorem s_begin {o : Bool} {y : Int32} (hy : y = (if o = true then 1 else 0)) (hd : 3 ≤ d) (hw : whl es) (hF : FrontR h G F es) (hW : WyR h G W F es) (hS : SA h G Q) (ho : F + 3 < Q ∨ Q + 38 < F) (hoW : W + 45 < Q) (hs : sort ≤ 2)
    (hp : ∀ h' R my fb, SwS h' G Q F o ns0 R my fb → (∀ x, x < es.length → my x = (if mayF es sort x = true then 1 else 0)) → mKeep h h' Q (Q + 38) → post none h') : MC G MX3_begin d 0 0 [.ref Q, .ref W, .int (nI sort), .int y] h N post := by
  have hd1 : 1 ≤ d := by omega
  obtain ⟨qo, one, fnd, fst, R, my0, fb0, hC⟩ := hS
  obtain ⟨Rw, a, hB⟩ := WyR_B hW
  have w0 := hB.1.1
  have h0 := hC.1
  have b30 := (vld_bd hw.1).1
  have y01 : y = 0 ∨ y = 1 := by rw [hy]; split <;> simp
  refine MC.of (L0 := [some (.ref Q), some (.ref W), some (.int (nI sort)), some (.int y), none]) gd_X3_begin (Nat.le_of_ble_eq_true rfl) rfl (MW.run gd_X3_begin [26] 24 ?_)
  simp (disch := omega) only [↓EVi, ↓EVc, ↓ft_X3_begin, ↓reduceIte, ↓EV_obs, ↓EV_obn, ↓EV_ais, ↓EV_ain, ↓EV_ob h0, ↓EV_ob w0, mdF, mRun, List.mem_cons, List.not_mem_nil, or_false, mtab_eq, Nat.reduceEqDiff, Nat.zero_add, y01, mset2, b10, b00, not_true_eq_false, not_false_eq_true, true_implies, false_implies, implies_true, and_true, true_and, Nat.le_refl, true_or, or_true, eq_self, List.length_cons, List.length_nil, Nat.reduceAdd, Nat.reduceLT, Nat.reduceLeDiff]
  have hC1 := SwC_v (qo' := F) (one' := y) (fnd' := 0) (fst' := 0) hC
  refine MW.upto 13 (fun k L h' => ∃ fb, L = [some (.ref Q), some (.ref W), some (.int (nI sort)), some (.int y), some (.int (nI k))] ∧ SwC h' G Q F y 0 0 R my0 fb ∧ (∀ j, j < k → fb j = 0) ∧ mKeep h h' Q (Q + 38)) ?_ ?_ 0 _ _ (Nat.zero_le _) ⟨fb0, rfl, hC1, fun j hj => absurd hj (Nat.not_lt_zero _), fun z hz => mset_ne (by omega)⟩
  · rintro k L h' hk13 ⟨fb, rfl, hC', hz, hk⟩ ih
    have q0 := hC'.1
    have q38 := hC'.2.2.2.2
    have w1 : ((12 : Int32) < nI k) = False := eq_false (by simp (disch := omega) only [z_nI, z_lit, z_neg, z_add, z_sub, z_mul, z_lt, z_le, z_eq, z_in, z_cl]; omega)
    have ck : (nI k).toNatClampNeg = k := nI_clamp (by omega)
    have vk : vp_in (nI k) 13 := vp_in_nI (by omega) (by decide)
    refine MW.run1 gd_X3_begin [26] 14 ?_
    simp (disch := omega) only [↓EVk, ↓w_if_eq, ↓w_an_ite, ↓mEndK, ↓w_retK0, ↓w_fitK, ↓w_dupK, ↓w_dup2K, w_an_back, ↓EVd, ↓ft_X3_begin, ↓reduceIte, ↓EV_obs, ↓EV_obn, ↓EV_ais, ↓EV_ain, ↓EV_ob q0, ↓EV_ai q38, mdF, mRun, List.mem_cons, List.not_mem_nil, or_false, mtab_eq, Nat.reduceEqDiff, Nat.zero_add, w1, ck, vk, nI_1, mset2, b10, b00, not_true_eq_false, not_false_eq_true, true_implies, false_implies, implies_true, and_true, true_and, Nat.le_refl, true_or, or_true, eq_self, List.length_cons, List.length_nil, Nat.reduceAdd, Nat.reduceLT, Nat.reduceLeDiff]
    refine ih _ _ ⟨upd fb k 0, rfl, SwC_fb hC', fun j hj => ?_, mKeep_trans hk (fun z hz => mset_ne (by omega))⟩
    by_cases c : j = k
    · rw [c, pk_us]
    · rw [pk_un c]
      exact hz j (by omega)
  · rintro L h' ⟨fb, rfl, hC', hz, hk⟩
    have w1 : ((12 : Int32) < nI 13) = True := eq_true (by decide)
    refine MW.run1 gd_X3_begin [50] 10 ?_
    simp (disch := omega) only [↓EVk, ↓w_if_eq, ↓w_an_ite, ↓mEndK, ↓w_retK0, ↓w_fitK, ↓w_dupK, ↓w_dup2K, w_an_back, ↓EVd, ↓ft_X3_begin, ↓reduceIte, ↓EV_obs, ↓EV_obn, ↓EV_ais, ↓EV_ain, mdF, mRun, List.mem_cons, List.not_mem_nil, or_false, mtab_eq, Nat.reduceEqDiff, Nat.zero_add, w1, mset2, b10, b00, not_true_eq_false, not_false_eq_true, true_implies, false_implies, implies_true, and_true, true_and, Nat.le_refl, true_or, or_true, eq_self, List.length_cons, List.length_nil, Nat.reduceAdd, Nat.reduceLT, Nat.reduceLeDiff]
    refine MW.upto es.length (fun i L h2 => ∃ my, L = [some (.ref Q), some (.ref W), some (.int (nI sort)), some (.int y), some (.int (nI i))] ∧ SwC h2 G Q F y 0 0 R my fb ∧ (∀ x, x < i → my x = (if mayF es sort x = true then 1 else 0)) ∧ mKeep h h2 Q (Q + 38)) ?_ ?_ 0 _ _ (Nat.zero_le _) ⟨my0, rfl, hC', fun x hx => absurd hx (Nat.not_lt_zero _), hk⟩
    · rintro i L h2 hi ⟨my, rfl, hC2, hm, hk2⟩ ih
      have hF2 : FrontR h2 G F es := FR_eq (eqO_of hk2 (by omega)) hF
      have hW2 : WyR h2 G W F es := WyR_eq (eqO_of hk2 (by omega)) hW
      obtain ⟨-, K, P, A, ⟨g0, g1, -, -⟩, hKP, -⟩ := id hF2
      have q0 := hC2.1
      have q37 := hC2.2.2.2.1
      have sm := vld_sm hw.1 hi
      have w1 : (nI es.length ≤ nI i) = False := eq_false (by simp (disch := omega) only [z_nI, z_lit, z_neg, z_add, z_sub, z_mul, z_lt, z_le, z_eq, z_in, z_cl]; omega)
      have ci : (nI i).toNatClampNeg = i := nI_clamp (by omega)
      have vi : vp_in (nI i) 30 := vp_in_nI (by omega) (by decide)
      have eK : K i = nI (evK es i) := (hKP i hi).1
      have nx : ∀ z : Int32, z = (if mayF es sort i = true then 1 else 0) → MW G MX3_begin (mz G d 0 0 post) 50 [some (.ref Q), some (.ref W), some (.int (nI sort)), some (.int y), some (.int (nI (i + 1)))] [] (mset h2 (Q + 37) (.inl (gC G 2, 30, .inl (upd my i z)))) (N, 0, 0) := by
        intro z hz
        refine ih _ _ ⟨upd my i z, rfl, SwC_my hC2, fun x hx => ?_, mKeep_trans hk2 (fun z hz => mset_ne (by omega))⟩
        by_cases c : x = i
        · rw [c, pk_us, hz]
        · rw [pk_un c]
          exact hm x (by omega)
      refine MW.run1 gd_X3_begin [50] 30 ?_
      by_cases k1 : evK es i = 1
      · have f2 : (nI (evK es i) = 1) = True := eq_true (by rw [k1]; rfl)
        simp (disch := omega) only [↓EVk, ↓w_if_eq, ↓w_an_ite, ↓mEndK, ↓w_retK0, ↓w_fitK, ↓w_dupK, ↓w_dup2K, w_an_back, ↓EVd, ↓ft_X3_begin, ↓reduceIte, ↓EV_obs, ↓EV_obn, ↓EV_ais, ↓EV_ain, ↓EV_ob q0, ↓EV_ob g0, ↓EV_ai g1, mdF, mRun, List.mem_cons, List.not_mem_nil, or_false, mtab_eq, Nat.reduceEqDiff, Nat.zero_add, hd1, w1, ci, vi, eK, f2, mset2, b10, b00, not_true_eq_false, not_false_eq_true, true_implies, false_implies, implies_true, and_true, true_and, Nat.le_refl, true_or, or_true, eq_self, List.length_cons, List.length_nil, Nat.reduceAdd, Nat.reduceLT, Nat.reduceLeDiff]
        refine s_isOfSort (by omega) hw hF2 hW2 hi k1 hs ?_
        cases hmf : mayF es sort i with
        | true =>
          rw [hmf] at nx
          simp only [↓reduceIte] at nx ⊢
          simp (disch := omega) only [↓EVk, ↓w_if_eq, ↓w_an_ite, ↓mEndK, ↓w_retK0, ↓w_fitK, ↓w_dupK, ↓w_dup2K, w_an_back, ↓EVd, ↓ft_X3_begin, ↓reduceIte, ↓EV_obs, ↓EV_obn, ↓EV_ais, ↓EV_ain, ↓EV_ai q37, mdF, mRun, List.mem_cons, List.not_mem_nil, or_false, mtab_eq, Nat.reduceEqDiff, Nat.zero_add, ci, vi, nar01.1, nI_1, mset2, b10, b00, not_true_eq_false, not_false_eq_true, true_implies, false_implies, implies_true, and_true, true_and, Nat.le_refl, true_or, or_true, eq_self, List.length_cons, List.length_nil, Nat.reduceAdd, Nat.reduceLT, Nat.reduceLeDiff]
          exact nx _ rfl
        | false =>
          rw [hmf] at nx
          simp only [Bool.false_eq_true, ↓reduceIte] at nx ⊢
          simp (disch := omega) only [↓EVk, ↓w_if_eq, ↓w_an_ite, ↓mEndK, ↓w_retK0, ↓w_fitK, ↓w_dupK, ↓w_dup2K, w_an_back, ↓EVd, ↓ft_X3_begin, ↓reduceIte, ↓EV_obs, ↓EV_obn, ↓EV_ais, ↓EV_ain, ↓EV_ai q37, mdF, mRun, List.mem_cons, List.not_mem_nil, or_false, mtab_eq, Nat.reduceEqDiff, Nat.zero_add, ci, vi, nar01.2, nI_1, mset2, b10, b00, not_true_eq_false, not_false_eq_true, true_implies, false_implies, implies_true, and_true, true_and, Nat.le_refl, true_or, or_true, eq_self, List.length_cons, List.length_nil, Nat.reduceAdd, Nat.reduceLT, Nat.reduceLeDiff]
          exact nx _ rfl
      · have f2 : (nI (evK es i) = 1) = False := eq_false (fun z => k1 ((nI_eq (b := 1) (by omega) (by omega)).mp z))
        have hmf : mayF es sort i = false := by unfold mayF; rw [decide_eq_false k1]; rfl
        rw [hmf] at nx
        simp only [Bool.false_eq_true, ↓reduceIte] at nx
        simp (disch := omega) only [↓EVk, ↓w_if_eq, ↓w_an_ite, ↓mEndK, ↓w_retK0, ↓w_fitK, ↓w_dupK, ↓w_dup2K, w_an_back, ↓EVd, ↓ft_X3_begin, ↓reduceIte, ↓EV_obs, ↓EV_obn, ↓EV_ais, ↓EV_ain, ↓EV_ob q0, ↓EV_ob g0, ↓EV_ai g1, ↓EV_ai q37, mdF, mRun, List.mem_cons, List.not_mem_nil, or_false, mtab_eq, Nat.reduceEqDiff, Nat.zero_add, hd1, w1, ci, vi, eK, f2, nar01.2, nI_1, mset2, b10, b00, not_true_eq_false, not_false_eq_true, true_implies, false_implies, implies_true, and_true, true_and, Nat.le_refl, true_or, or_true, eq_self, List.length_cons, List.length_nil, Nat.reduceAdd, Nat.reduceLT, Nat.reduceLeDiff]
        exact nx _ rfl
    · rintro L h2 ⟨my, rfl, hC2, hm, hk2⟩
      have hF2 : FrontR h2 G F es := FR_eq (eqO_of hk2 (by omega)) hF
      obtain ⟨-, K, P, A, ⟨g0, -, -, -⟩, -, -⟩ := id hF2
      have q0 := hC2.1
      have w1 : (nI es.length ≤ nI es.length) = True := eq_true (Int32.le_refl _)
      refine MW.run1 gd_X3_begin [50] 10 ?_
      simp (disch := omega) only [↓EVk, ↓w_if_eq, ↓w_an_ite, ↓mEndK, ↓w_retK0, ↓w_fitK, ↓w_dupK, ↓w_dup2K, w_an_back, ↓EVd, ↓ft_X3_begin, ↓reduceIte, ↓EV_obs, ↓EV_obn, ↓EV_ais, ↓EV_ain, ↓EV_ob q0, ↓EV_ob g0, mdF, mRun, List.mem_cons, List.not_mem_nil, or_false, mtab_eq, Nat.reduceEqDiff, Nat.zero_add, w1, mset2, b10, b00, not_true_eq_false, not_false_eq_true, true_implies, false_implies, implies_true, and_true, true_and, Nat.le_refl, true_or, or_true, eq_self, List.length_cons, List.length_nil, Nat.reduceAdd, Nat.reduceLT, Nat.reduceLeDiff]
      refine hp h2 R my fb ⟨?_, fun k hk => by rw [hz k (by omega)]; rfl⟩ hm hk2
      rw [← hy]
      exact hC2
set_option maxRecDepth 10000 in
theorem s_all {o : Bool} {y : Int32} (Mm : mI) (hM : Mm = MX3_countAll ∧ o = false ∨ Mm = MX3_findFirst ∧ o = true) (hd : 64 ≤ d) (hw : whl es) (hF : FrontR h G F es) (hW : WyR h G W F es) (hS : SA h G Q) (ho : F + 3 < Q ∨ Q + 38 < F) (hoW : W + 45 < Q) (hs : sort ≤ 2)
    (hp : ∀ h' R my fb, SwS h' G Q F o ((tkO o (mks es (mayF es sort) es.length 0 (fun _ => 0) 0 0)).foldl ntS ns0) R my fb → mKeep h h' Q (Q + 38) → post none h') : MC G Mm d 0 0 [.ref Q, .ref W, .int (nI sort)] h N post := by
  have hd1 : 1 ≤ d := by omega
  obtain ⟨qo, one, fnd, fst, R0, my0, fb0, hC⟩ := id hS
  have h0 := hC.1
  have b30 := (vld_bd hw.1).1
  have b12 := (vld_bd hw.1).2.2
  have hcr := crN_all es
  have h12 := two12 b12
  have core : ∀ h1 R my fb (post' : Option Value → mH → Prop), SwS h1 G Q F o ns0 R my fb → (∀ x, x < es.length → my x = (if mayF es sort x = true then 1 else 0)) → mKeep h h1 Q (Q + 38) → (∀ h2, post none h2 → post' none h2) → MC G MX3_search (d - 1) 0 0 [.ref Q, .int (nI 0), .int (nI 0), .int (nI 0)] h1 N post' := by
    intro h1 R my fb post' hS1 hmy hk1 hq
    refine s_search (o := o) (may := mayF es sort) hw ho es.length (d - 1) N h1 R my fb 0 0 0 (fun _ => 0) ns0 post' (by omega) ⟨hS1, FR_eq (eqO_of hk1 (by omega)) hF, fun y hy => by rw [aN_zero] at hy; omega, fun y hy => by rw [aN_zero] at hy; omega, hmy⟩ ⟨by omega, by decide, by omega, ?_, fun _ => rfl⟩ (fun h2 R2 fb2 hS2 _ hk2 => hq h2 (hp h2 R2 my fb2 hS2 (mKeep_trans hk1 hk2)))
    rw [hcr]
    show 0 + 2 ^ crs es ≤ 5000
    omega
  rcases hM with ⟨rfl, rfl⟩ | ⟨rfl, rfl⟩
  · refine MC.of (L0 := [some (.ref Q), some (.ref W), some (.int (nI sort))]) gd_X3_countAll (Nat.le_of_ble_eq_true rfl) rfl (MW.run gd_X3_countAll [] 16 ?_)
    simp (disch := omega) only [↓EVi, ↓EVc, ↓ft_X3_countAll, ↓reduceIte, ↓EV_obs, ↓EV_obn, ↓EV_ais, ↓EV_ain, ↓EV_ob h0, mdF, mRun, List.mem_cons, List.not_mem_nil, or_false, mtab_eq, Nat.reduceEqDiff, Nat.zero_add, hd1, mset2, b10, b00, not_true_eq_false, not_false_eq_true, true_implies, false_implies, implies_true, and_true, true_and, Nat.le_refl, true_or, or_true, eq_self, List.length_cons, List.length_nil, Nat.reduceAdd, Nat.reduceLT, Nat.reduceLeDiff]
    refine s_begin (o := false) rfl (by omega) hw hF hW hS ho hoW hs (fun h1 R my fb hS1 hmy hk1 => ?_)
    simp (disch := omega) only [↓EVi, ↓EVc, ↓ft_X3_countAll, ↓reduceIte, ↓EV_obs, ↓EV_obn, ↓EV_ais, ↓EV_ain, ↓EV_ob hS1.1.1, mdF, mRun, List.mem_cons, List.not_mem_nil, or_false, mtab_eq, Nat.reduceEqDiff, Nat.zero_add, hd1, mset2, b10, b00, not_true_eq_false, not_false_eq_true, true_implies, false_implies, implies_true, and_true, true_and, Nat.le_refl, true_or, or_true, eq_self, List.length_cons, List.length_nil, Nat.reduceAdd, Nat.reduceLT, Nat.reduceLeDiff]
    refine core h1 R my fb _ hS1 hmy hk1 (fun h2 hq => ?_)
    simp (disch := omega) only [↓EVi, ↓EVc, ↓ft_X3_countAll, ↓reduceIte, ↓EV_obs, ↓EV_obn, ↓EV_ais, ↓EV_ain, mdF, mRun, List.mem_cons, List.not_mem_nil, or_false, mtab_eq, Nat.reduceEqDiff, Nat.zero_add, mset2, b10, b00, not_true_eq_false, not_false_eq_true, true_implies, false_implies, implies_true, and_true, true_and, Nat.le_refl, true_or, or_true, eq_self, List.length_cons, List.length_nil, Nat.reduceAdd, Nat.reduceLT, Nat.reduceLeDiff]
    exact hq
  · refine MC.of (L0 := [some (.ref Q), some (.ref W), some (.int (nI sort))]) gd_X3_findFirst (Nat.le_of_ble_eq_true rfl) rfl (MW.run gd_X3_findFirst [] 16 ?_)
    simp (disch := omega) only [↓EVi, ↓EVc, ↓ft_X3_findFirst, ↓reduceIte, ↓EV_obs, ↓EV_obn, ↓EV_ais, ↓EV_ain, ↓EV_ob h0, mdF, mRun, List.mem_cons, List.not_mem_nil, or_false, mtab_eq, Nat.reduceEqDiff, Nat.zero_add, hd1, mset2, b10, b00, not_true_eq_false, not_false_eq_true, true_implies, false_implies, implies_true, and_true, true_and, Nat.le_refl, true_or, or_true, eq_self, List.length_cons, List.length_nil, Nat.reduceAdd, Nat.reduceLT, Nat.reduceLeDiff]
    refine s_begin (o := true) rfl (by omega) hw hF hW hS ho hoW hs (fun h1 R my fb hS1 hmy hk1 => ?_)
    simp (disch := omega) only [↓EVi, ↓EVc, ↓ft_X3_findFirst, ↓reduceIte, ↓EV_obs, ↓EV_obn, ↓EV_ais, ↓EV_ain, ↓EV_ob hS1.1.1, mdF, mRun, List.mem_cons, List.not_mem_nil, or_false, mtab_eq, Nat.reduceEqDiff, Nat.zero_add, hd1, mset2, b10, b00, not_true_eq_false, not_false_eq_true, true_implies, false_implies, implies_true, and_true, true_and, Nat.le_refl, true_or, or_true, eq_self, List.length_cons, List.length_nil, Nat.reduceAdd, Nat.reduceLT, Nat.reduceLeDiff]
    refine core h1 R my fb _ hS1 hmy hk1 (fun h2 hq => ?_)
    simp (disch := omega) only [↓EVi, ↓EVc, ↓ft_X3_findFirst, ↓reduceIte, ↓EV_obs, ↓EV_obn, ↓EV_ais, ↓EV_ain, mdF, mRun, List.mem_cons, List.not_mem_nil, or_false, mtab_eq, Nat.reduceEqDiff, Nat.zero_add, mset2, b10, b00, not_true_eq_false, not_false_eq_true, true_implies, false_implies, implies_true, and_true, true_and, Nat.le_refl, true_or, or_true, eq_self, List.length_cons, List.length_nil, Nat.reduceAdd, Nat.reduceLT, Nat.reduceLeDiff]
    exact hq
set_option maxRecDepth 10000 in
theorem s_foundWith {k : Int32} {qo : Nat} {o : Bool} {st : NS} {R : Nat → Nat → Int32} {my fb : Nat → Int32} (hS : SwS h G Q qo o st R my fb) (hp : post (some (.int (if 0 ≤ k ∧ k ≤ 12 then nI (st.2.2 k.toNatClampNeg) else 0))) h) : MC G MX3_foundWith d 0 0 [.ref Q, .int k] h N post := by
  obtain ⟨hC, hfb⟩ := hS
  have h0 := hC.1
  have q38 := hC.2.2.2.2
  refine MC.of (L0 := [some (.ref Q), some (.int k)]) gd_X3_foundWith (Nat.le_of_ble_eq_true rfl) rfl (MW.run gd_X3_foundWith [] 14 ?_)
  by_cases c1 : k < 0
  · rw [if_neg (fun z => absurd c1 (by rw [Int32.not_lt]; exact z.1))] at hp
    have f1 : (k < 0) = True := eq_true c1
    simp (disch := omega) only [↓EVk, ↓w_if_eq, ↓w_an_ite, ↓mEndK, ↓w_retK0, ↓w_fitK, ↓w_dupK, ↓w_dup2K, w_an_back, ↓EVd, ↓ft_X3_foundWith, ↓reduceIte, ↓EV_obs, ↓EV_obn, ↓EV_ais, ↓EV_ain, mdF, mRun, List.mem_cons, List.not_mem_nil, or_false, mtab_eq, Nat.reduceEqDiff, Nat.zero_add, f1, mset2, b10, b00, not_true_eq_false, not_false_eq_true, true_implies, false_implies, implies_true, and_true, true_and, Nat.le_refl, true_or, or_true, eq_self, List.length_cons, List.length_nil, Nat.reduceAdd, Nat.reduceLT, Nat.reduceLeDiff]
    exact hp
  have f1 : (k < 0) = False := eq_false c1
  by_cases c2 : k ≤ 12
  · rw [if_pos ⟨by rw [← Int32.not_lt]; exact c1, c2⟩] at hp
    obtain ⟨t, ht, rfl⟩ := arg_le k 12 (by decide) ⟨by rw [← Int32.not_lt]; exact c1, c2⟩
    have f2 : ((12 : Int32) < nI t) = False := eq_false (by simp (disch := omega) only [z_nI, z_lit, z_neg, z_add, z_sub, z_mul, z_lt, z_le, z_eq, z_in, z_cl]; omega)
    have ct : (nI t).toNatClampNeg = t := nI_clamp (by omega)
    have vt : vp_in (nI t) 13 := vp_in_nI (by omega) (by decide)
    have et := hfb t (by omega)
    rw [ct] at hp
    simp (disch := omega) only [↓EVk, ↓w_if_eq, ↓w_an_ite, ↓mEndK, ↓w_retK0, ↓w_fitK, ↓w_dupK, ↓w_dup2K, w_an_back, ↓EVd, ↓ft_X3_foundWith, ↓reduceIte, ↓EV_obs, ↓EV_obn, ↓EV_ais, ↓EV_ain, ↓EV_ob h0, ↓EV_ai q38, mdF, mRun, List.mem_cons, List.not_mem_nil, or_false, mtab_eq, Nat.reduceEqDiff, Nat.zero_add, f1, f2, ct, vt, et, mset2, b10, b00, not_true_eq_false, not_false_eq_true, true_implies, false_implies, implies_true, and_true, true_and, Nat.le_refl, true_or, or_true, eq_self, List.length_cons, List.length_nil, Nat.reduceAdd, Nat.reduceLT, Nat.reduceLeDiff]
    exact hp
  · rw [if_neg (fun z => c2 z.2)] at hp
    have f2 : ((12 : Int32) < k) = True := eq_true (Int32.not_le.mp c2)
    simp (disch := omega) only [↓EVk, ↓w_if_eq, ↓w_an_ite, ↓mEndK, ↓w_retK0, ↓w_fitK, ↓w_dupK, ↓w_dup2K, w_an_back, ↓EVd, ↓ft_X3_foundWith, ↓reduceIte, ↓EV_obs, ↓EV_obn, ↓EV_ais, ↓EV_ain, mdF, mRun, List.mem_cons, List.not_mem_nil, or_false, mtab_eq, Nat.reduceEqDiff, Nat.zero_add, f1, f2, mset2, b10, b00, not_true_eq_false, not_false_eq_true, true_implies, false_implies, implies_true, and_true, true_and, Nat.le_refl, true_or, or_true, eq_self, List.length_cons, List.length_nil, Nat.reduceAdd, Nat.reduceLT, Nat.reduceLeDiff]
    exact hp
end SWB
