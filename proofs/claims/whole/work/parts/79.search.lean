/-! Switching: the search -/
section SRS
variable {h : mH} {G : mG} {Q qo : Nat} {es : List Ev} {o : Bool} {may : Nat → Bool} {R : Nat → Nat → Int32} {my fb : Nat → Int32} {d N : Nat} {post : Option Value → mH → Prop} {st : NS} {mu : Nat → Nat} {i met sw : Nat}
theorem or_key : (List.range 12).all (fun m => (List.range (2 ^ m)).all (fun s => (nI s ||| (1 : Int32) <<< (nI m &&& 31)) == nI (s + 2 ^ m))) = true := by decide +kernel
theorem or_sh {m s : Nat} (hm : m < 12) (hs : s < 2 ^ m) : nI s ||| (1 : Int32) <<< (nI m &&& 31) = nI (s + 2 ^ m) := by
  have := List.all_eq_true.mp (List.all_eq_true.mp or_key m (List.mem_range.mpr hm)) s (List.mem_range.mpr hs)
  rwa [beq_iff_eq] at this
/-- the search stands ahead of event i -/
def SrI (h : mH) (G : mG) (Q qo : Nat) (es : List Ev) (o : Bool) (may : Nat → Bool) (st : NS) (R : Nat → Nat → Int32) (my fb : Nat → Int32) (i : Nat) (mu : Nat → Nat) : Prop := SwS h G Q qo o st R my fb ∧ FrontR h G qo es ∧ rowM R i mu (aN es i) ∧ MI mu (aN es i) ∧ ∀ x, x < es.length → my x = (if may x = true then 1 else 0)
/-- bounds -/
def SrB (es : List Ev) (o : Bool) (st : NS) (n i met sw : Nat) : Prop := i + n = es.length ∧ sw < 2 ^ met ∧ met + crN es n i ≤ 12 ∧ st.1 + 2 ^ crN es n i ≤ 5000 ∧ (o = true → st.1 = 0)
def SrE (h : mH) (G : mG) (Q qo : Nat) (es : List Ev) (o : Bool) (may : Nat → Bool) (st : NS) (R : Nat → Nat → Int32) (my : Nat → Int32) (n i : Nat) (mu : Nat → Nat) (met sw : Nat) (post : Option Value → mH → Prop) : Prop := ∀ h' R' fb', SwS h' G Q qo o ((tkO o (mks es may n i mu met sw)).foldl ntS st) R' my fb' → (∀ j, j ≤ i → R' j = R j) → mKeep h h' Q (Q + 38) → post none h'
def SrchP (G : mG) (Q qo : Nat) (es : List Ev) (o : Bool) (may : Nat → Bool) (n : Nat) : Prop := ∀ (d N : Nat) (h : mH) (R : Nat → Nat → Int32) (my fb : Nat → Int32) (i met sw : Nat) (mu : Nat → Nat) (st : NS) (post : Option Value → mH → Prop), 2 * n + 2 ≤ d → SrI h G Q qo es o may st R my fb i mu → SrB es o st n i met sw → SrE h G Q qo es o may st R my n i mu met sw post → MC G MX3_search d 0 0 [.ref Q, .int (nI i), .int (nI met), .int (nI sw)] h N post
theorem crN_s (es : List Ev) (n x : Nat) : crN es (n + 1) x = (if evK es x = 1 then 1 else 0) + crN es n (x + 1) := rfl
theorem tkO_len {o : Bool} {l : List Nat} : (tkO o l).length ≤ l.length := by
  unfold tkO
  split
  · rw [List.length_take]; omega
  · exact Nat.le_refl _
set_option maxRecDepth 10000 in
theorem s_searchPaired {n : Nat} (ih : SrchP G Q qo es o may n) (hw : whl es) (ho : qo + 3 < Q ∨ Q + 38 < qo) (hd : 2 * n + 3 ≤ d) (hI : SrI h G Q qo es o may st R my fb i mu) (hB : SrB es o st (n + 1) i met sw) (hK : ¬ evK es i = 0) (hm : mu (evP es i) = evP es i + 1) (hp : SrE h G Q qo es o may st R my (n + 1) i mu met sw post) : MC G MX3_searchPaired d 0 0 [.ref Q, .int (nI i), .int (nI met), .int (nI sw)] h N post := by
  obtain ⟨⟨hC, hfb⟩, hF, hR, hM, hmy⟩ := hI
  obtain ⟨b1, b2, b3, b4, b5⟩ := hB
  have hd1 : 1 ≤ d := by omega
  obtain ⟨-, K, P, A, ⟨g0, g1, g2, -⟩, hKP, -⟩ := id hF
  have hi : i < es.length := by omega
  have b30 := (vld_bd hw.1).1
  have sm := vld_sm hw.1 hi
  obtain ⟨k2, a10, e0, e1, e2⟩ := ev_ok hw.1 hi
  have h0 := hC.1
  have eK : K i = nI (evK es i) := (hKP i hi).1
  have eP : P i = nI (evP es i) := (hKP i hi).2
  have ci : (nI i).toNatClampNeg = i := nI_clamp (by omega)
  have vi : vp_in (nI i) 30 := vp_in_nI (by omega) (by decide)
  refine MC.of (L0 := [some (.ref Q), some (.int (nI i)), some (.int (nI met)), some (.int (nI sw))]) gd_X3_searchPaired (Nat.le_of_ble_eq_true rfl) rfl (MW.run gd_X3_searchPaired [] 24 ?_)
  by_cases c : evK es i = 2
  · have f2 : (nI (evK es i) = 2) = True := eq_true (by rw [c]; rfl)
    have fk := e2 c
    have en : aN es i = aN es (i + 1) + 2 := by omega
    simp (disch := omega) only [↓EVk, ↓w_if_eq, ↓w_an_ite, ↓mEndK, ↓w_retK0, ↓w_fitK, ↓w_dupK, ↓w_dup2K, w_an_back, ↓EVd, ↓ft_X3_searchPaired, ↓reduceIte, ↓EV_obs, ↓EV_obn, ↓EV_ais, ↓EV_ain, ↓EV_ob h0, ↓EV_ob g0, ↓EV_ai g1, ↓EV_ai g2, mdF, mRun, List.mem_cons, List.not_mem_nil, or_false, mtab_eq, Nat.reduceEqDiff, Nat.zero_add, ci, vi, eK, eP, f2, hd1, mset2, b10, b00, not_true_eq_false, not_false_eq_true, true_implies, false_implies, implies_true, and_true, true_and, Nat.le_refl, true_or, or_true, eq_self, List.length_cons, List.length_nil, Nat.reduceAdd, Nat.reduceLT, Nat.reduceLeDiff]
    refine s_dropPair (n := aN es (i + 1)) hF ho hC hi b30 en (by omega) (by omega) (by rw [← en]; exact hR) (by rw [← en]; exact hM) hm (fun h1 f hC1 hf hk1 => ?_)
    simp (disch := omega) only [↓EVk, ↓w_if_eq, ↓w_an_ite, ↓mEndK, ↓w_retK0, ↓w_fitK, ↓w_dupK, ↓w_dup2K, w_an_back, ↓EVd, ↓ft_X3_searchPaired, ↓reduceIte, ↓EV_obs, ↓EV_obn, ↓EV_ais, ↓EV_ain, ↓EV_ob hC1.1, mdF, mRun, List.mem_cons, List.not_mem_nil, or_false, mtab_eq, Nat.reduceEqDiff, Nat.zero_add, nI_1, hd1, mset2, b10, b00, not_true_eq_false, not_false_eq_true, true_implies, false_implies, implies_true, and_true, true_and, Nat.le_refl, true_or, or_true, eq_self, List.length_cons, List.length_nil, Nat.reduceAdd, Nat.reduceLT, Nat.reduceLeDiff]
    have ec := crN_s es n i
    rw [if_neg (by omega), Nat.zero_add] at ec
    have em : mks es may (n + 1) i mu met sw = mks es may n (i + 1) (diesF mu (evP es i)) met sw := by
      show (if _ then _ else if _ then _ else _) = _
      rw [if_neg (by omega), if_pos c, if_pos hm]
    refine ih (d - 1) N h1 (aset R (i + 1) f) my fb (i + 1) met sw (diesF mu (evP es i)) st _ (by omega) ⟨⟨hC1, hfb⟩, FR_eq (eqO_of hk1 (by omega)) hF, fun y hy => by rw [aset_at]; exact hf y hy, (MI_dies (by rw [← en]; exact hM) (by omega) hm).1, hmy⟩ ⟨by omega, b2, by omega, by rw [← ec]; exact b4, b5⟩ (fun h2 R2 fb2 hS2 hR2 hk2 => ?_)
    rw [← em] at hS2
    simp (disch := omega) only [↓EVk, ↓w_if_eq, ↓w_an_ite, ↓mEndK, ↓w_retK0, ↓w_fitK, ↓w_dupK, ↓w_dup2K, w_an_back, ↓EVd, ↓ft_X3_searchPaired, ↓reduceIte, ↓EV_obs, ↓EV_obn, ↓EV_ais, ↓EV_ain, mdF, mRun, List.mem_cons, List.not_mem_nil, or_false, mtab_eq, Nat.reduceEqDiff, Nat.zero_add, mset2, b10, b00, not_true_eq_false, not_false_eq_true, true_implies, false_implies, implies_true, and_true, true_and, Nat.le_refl, true_or, or_true, eq_self, List.length_cons, List.length_nil, Nat.reduceAdd, Nat.reduceLT, Nat.reduceLeDiff]
    exact hp h2 R2 fb2 hS2 (fun j hj => by rw [hR2 j (by omega), aset_ne (by omega)]) (mKeep_trans hk1 hk2)
  · have f2 : (nI (evK es i) = 2) = False := eq_false (fun z => c ((nI_eq (b := 2) (by omega) (by omega)).mp z))
    have em : mks es may (n + 1) i mu met sw = [] := by
      show (if _ then _ else if _ then _ else _) = _
      rw [if_neg hK, if_neg c, if_pos hm]
    have et : tkO o ([] : List Nat) = [] := by unfold tkO; split <;> rfl
    simp (disch := omega) only [↓EVk, ↓w_if_eq, ↓w_an_ite, ↓mEndK, ↓w_retK0, ↓w_fitK, ↓w_dupK, ↓w_dup2K, w_an_back, ↓EVd, ↓ft_X3_searchPaired, ↓reduceIte, ↓EV_obs, ↓EV_obn, ↓EV_ais, ↓EV_ain, ↓EV_ob h0, ↓EV_ob g0, ↓EV_ai g1, ↓EV_ai g2, mdF, mRun, List.mem_cons, List.not_mem_nil, or_false, mtab_eq, Nat.reduceEqDiff, Nat.zero_add, ci, vi, eK, eP, f2, hd1, mset2, b10, b00, not_true_eq_false, not_false_eq_true, true_implies, false_implies, implies_true, and_true, true_and, Nat.le_refl, true_or, or_true, eq_self, List.length_cons, List.length_nil, Nat.reduceAdd, Nat.reduceLT, Nat.reduceLeDiff]
    refine hp h R fb ?_ (fun _ _ => rfl) mKeep_rfl
    rw [em, et]
    exact ⟨hC, hfb⟩
set_option maxRecDepth 10000 in
theorem s_searchCross {n : Nat} (ih : SrchP G Q qo es o may n) (hw : whl es) (ho : qo + 3 < Q ∨ Q + 38 < qo) (hd : 2 * n + 3 ≤ d) (hI : SrI h G Q qo es o may st R my fb i mu) (hB : SrB es o st (n + 1) i met sw) (hK : evK es i = 1) (hm : ¬ mu (evP es i) = evP es i + 1) (hp : SrE h G Q qo es o may st R my (n + 1) i mu met sw post) : MC G MX3_searchCross d 0 0 [.ref Q, .int (nI i), .int (nI met), .int (nI sw)] h N post := by
  obtain ⟨⟨hC, hfb⟩, hF, hR, hM, hmy⟩ := hI
  obtain ⟨b1, b2, b3, b4, b5⟩ := hB
  have hd1 : 1 ≤ d := by omega
  obtain ⟨-, K, P, A, ⟨g0, g1, g2, -⟩, hKP, -⟩ := id hF
  have hi : i < es.length := by omega
  have b30 := (vld_bd hw.1).1
  have sm := vld_sm hw.1 hi
  obtain ⟨k2, a10, e0, e1, e2⟩ := ev_ok hw.1 hi
  have fk := e1 hK
  have h0 := hC.1
  have eP : P i = nI (evP es i) := (hKP i hi).2
  have ci : (nI i).toNatClampNeg = i := nI_clamp (by omega)
  have ci1 : (nI (i + 1)).toNatClampNeg = i + 1 := nI_clamp (by omega)
  have vi : vp_in (nI i) 30 := vp_in_nI (by omega) (by decide)
  have vi31 : vp_in (nI i) 31 := vp_in_nI (by omega) (by decide)
  have vi1 : vp_in (nI (i + 1)) 31 := vp_in_nI (by omega) (by decide)
  have ec := crN_s es n i
  rw [if_pos hK] at ec
  have hpw : 2 ^ crN es (n + 1) i = 2 ^ crN es n (i + 1) + 2 ^ crN es n (i + 1) := by rw [ec, Nat.add_comm, Nat.pow_succ]; omega
  have hmt : 2 ^ (met + 1) = 2 ^ met + 2 ^ met := by rw [Nat.pow_succ]; omega
  have em : mks es may (n + 1) i mu met sw = mks es may n (i + 1) (swF mu (evP es i)) (met + 1) sw ++ (if may i = true ∧ ¬ mxd mu (evP es i) then mks es may n (i + 1) mu (met + 1) (sw + 2 ^ met) else []) := by
    show (if _ then _ else if _ then _ else _) = _
    rw [if_neg (by omega), if_neg (by omega), if_neg hm]
  have hl1 : (mks es may n (i + 1) (swF mu (evP es i)) (met + 1) sw).length ≤ 2 ^ crN es n (i + 1) := mks_le (fun y h1 h2 => (vld_sm hw.1 (by omega)).1)
  unfold SrE at hp
  rw [em] at hp
  generalize hl : mks es may n (i + 1) (swF mu (evP es i)) (met + 1) sw = l1 at hp hl1
  refine MC.of (L0 := [some (.ref Q), some (.int (nI i)), some (.int (nI met)), some (.int (nI sw)), none]) gd_X3_searchCross (Nat.le_of_ble_eq_true rfl) rfl (MW.run gd_X3_searchCross [44] 30 ?_)
  simp (disch := omega) only [↓EVk, ↓w_if_eq, ↓w_an_ite, ↓mEndK, ↓w_retK0, ↓w_fitK, ↓w_dupK, ↓w_dup2K, w_an_back, ↓EVd, ↓ft_X3_searchCross, ↓reduceIte, ↓EV_obs, ↓EV_obn, ↓EV_ais, ↓EV_ain, ↓EV_ob h0, ↓EV_ob g0, ↓EV_ai g2, mdF, mRun, List.mem_cons, List.not_mem_nil, or_false, mtab_eq, Nat.reduceEqDiff, Nat.zero_add, ci, vi, eP, hd1, mset2, b10, b00, not_true_eq_false, not_false_eq_true, true_implies, false_implies, implies_true, and_true, true_and, Nat.le_refl, true_or, or_true, eq_self, List.length_cons, List.length_nil, Nat.reduceAdd, Nat.reduceLT, Nat.reduceLeDiff]
  refine s_changePlaces (by omega) hC (by omega) fk.1 (by omega) hR hM (fun h1 f hC1 hf hk1 => ?_)
  simp (disch := omega) only [↓EVk, ↓w_if_eq, ↓w_an_ite, ↓mEndK, ↓w_retK0, ↓w_fitK, ↓w_dupK, ↓w_dup2K, w_an_back, ↓EVd, ↓ft_X3_searchCross, ↓reduceIte, ↓EV_obs, ↓EV_obn, ↓EV_ais, ↓EV_ain, ↓EV_ob hC1.1, mdF, mRun, List.mem_cons, List.not_mem_nil, or_false, mtab_eq, Nat.reduceEqDiff, Nat.zero_add, nI_1, hd1, mset2, b10, b00, not_true_eq_false, not_false_eq_true, true_implies, false_implies, implies_true, and_true, true_and, Nat.le_refl, true_or, or_true, eq_self, List.length_cons, List.length_nil, Nat.reduceAdd, Nat.reduceLT, Nat.reduceLeDiff]
  refine ih (d - 1) N h1 (aset R (i + 1) f) my fb (i + 1) (met + 1) sw (swF mu (evP es i)) st _ (by omega) ⟨⟨hC1, hfb⟩, FR_eq (eqO_of hk1 (by omega)) hF, fun y hy => by rw [aset_at]; exact hf y (by omega), by rw [fk.2]; exact MI_sw hM fk.1 hm, hmy⟩ ⟨by omega, by omega, by omega, by omega, b5⟩ (fun h2 R2 fb2 hS2 hR2 hk2 => ?_)
  rw [hl] at hS2
  have hR2' : ∀ j, j ≤ i → R2 j = R j := fun j hj => by rw [hR2 j (by omega), aset_ne (by omega)]
  have hk12 := mKeep_trans hk1 hk2
  have hF2 : FrontR h2 G qo es := FR_eq (eqO_of hk12 (by omega)) hF
  have n1 := nt_1 (tkO o l1) st
  have hle := tkO_len (o := o) (l := l1)
  generalize hst : (tkO o l1).foldl ntS st = st1 at hS2 n1
  obtain ⟨hC2, hfb2⟩ := id hS2
  have q0 := hC2.1
  have q5 := hC2.2.1
  have q37 := hC2.2.2.2.1
  have go : (o = true → st1.1 = 0) → (∀ m : List Nat, (tkO o (l1 ++ m)).foldl ntS st = (tkO o m).foldl ntS st1) → MW G MX3_searchCross (mz G d 0 0 post) 44 [some (.ref Q), some (.int (nI i)), some (.int (nI met)), some (.int (nI sw)), some (.int (nI (evP es i)))] [] h2 (N, 0, 0) := by
    intro ho1 hap
    have emy := hmy i hi
    have stop : ¬ (may i = true ∧ ¬ mxd mu (evP es i)) → post none h2 := by
      intro c
      refine hp h2 R2 fb2 ?_ hR2' hk12
      rw [if_neg c, hap]
      have et : tkO o ([] : List Nat) = [] := by unfold tkO; split <;> rfl
      rw [et]
      exact hS2
    by_cases c1 : may i = true
    case neg =>
      have f1 : my i = 0 := by rw [emy, if_neg c1]
      refine MW.run1 gd_X3_searchCross [] 16 ?_
      simp (disch := omega) only [↓EVk, ↓w_if_eq, ↓w_an_ite, ↓mEndK, ↓w_retK0, ↓w_fitK, ↓w_dupK, ↓w_dup2K, w_an_back, ↓EVd, ↓ft_X3_searchCross, ↓reduceIte, ↓EV_obs, ↓EV_obn, ↓EV_ais, ↓EV_ain, ↓EV_ob q0, ↓EV_ai q37, mdF, mRun, List.mem_cons, List.not_mem_nil, or_false, mtab_eq, Nat.reduceEqDiff, Nat.zero_add, ci, vi, f1, mset2, b10, b00, not_true_eq_false, not_false_eq_true, true_implies, false_implies, implies_true, and_true, true_and, Nat.le_refl, true_or, or_true, eq_self, List.length_cons, List.length_nil, Nat.reduceAdd, Nat.reduceLT, Nat.reduceLeDiff]
      exact stop (fun z => c1 z.1)
    have f1 : my i = 1 := by rw [emy, if_pos c1]
    refine MW.run1 gd_X3_searchCross [63] 16 ?_
    simp (disch := omega) only [↓EVk, ↓w_if_eq, ↓w_an_ite, ↓mEndK, ↓w_retK0, ↓w_fitK, ↓w_dupK, ↓w_dup2K, w_an_back, ↓EVd, ↓ft_X3_searchCross, ↓reduceIte, ↓EV_obs, ↓EV_obn, ↓EV_ais, ↓EV_ain, ↓EV_ob q0, ↓EV_ai q37, mdF, mRun, List.mem_cons, List.not_mem_nil, or_false, mtab_eq, Nat.reduceEqDiff, Nat.zero_add, ci, vi, f1, hd1, mset2, b10, b00, not_true_eq_false, not_false_eq_true, true_implies, false_implies, implies_true, and_true, true_and, Nat.le_refl, true_or, or_true, eq_self, List.length_cons, List.length_nil, Nat.reduceAdd, Nat.reduceLT, Nat.reduceLeDiff]
    refine s_interlocked (by omega) hC2 (by omega) fk.1 (by omega) (fun y hy => by rw [hR2' i (Nat.le_refl _)]; exact hR y hy) hM ?_
    by_cases c2 : mxd mu (evP es i)
    · rw [if_pos c2]
      simp (disch := omega) only [↓EVk, ↓w_if_eq, ↓w_an_ite, ↓mEndK, ↓w_retK0, ↓w_fitK, ↓w_dupK, ↓w_dup2K, w_an_back, ↓EVd, ↓ft_X3_searchCross, ↓reduceIte, ↓EV_obs, ↓EV_obn, ↓EV_ais, ↓EV_ain, mdF, mRun, List.mem_cons, List.not_mem_nil, or_false, mtab_eq, Nat.reduceEqDiff, Nat.zero_add, mset2, b10, b00, not_true_eq_false, not_false_eq_true, true_implies, false_implies, implies_true, and_true, true_and, Nat.le_refl, true_or, or_true, eq_self, List.length_cons, List.length_nil, Nat.reduceAdd, Nat.reduceLT, Nat.reduceLeDiff]
      exact stop (fun z => z.2 c2)
    rw [if_neg c2]
    simp (disch := omega) only [↓EVk, ↓w_if_eq, ↓w_an_ite, ↓mEndK, ↓w_retK0, ↓w_fitK, ↓w_dupK, ↓w_dup2K, w_an_back, ↓EVd, ↓ft_X3_searchCross, ↓reduceIte, ↓EV_obs, ↓EV_obn, ↓EV_ais, ↓EV_ain, mdF, mRun, List.mem_cons, List.not_mem_nil, or_false, mtab_eq, Nat.reduceEqDiff, Nat.zero_add, mset2, b10, b00, not_true_eq_false, not_false_eq_true, true_implies, false_implies, implies_true, and_true, true_and, Nat.le_refl, true_or, or_true, eq_self, List.length_cons, List.length_nil, Nat.reduceAdd, Nat.reduceLT, Nat.reduceLeDiff]
    have ri := hC2.2.2.1 i (by omega)
    have rj := hC2.2.2.1 (i + 1) (by omega)
    have z0 : (0 : Int32).toNatClampNeg = 0 := rfl
    have z1 : ((0 : Int32) < 0) = False := eq_false (by decide)
    have z2 : (10 : Int32).toNatClampNeg = 10 := rfl
    have z3 : ((10 : Int32) < 0) = False := eq_false (by decide)
    have eo : nI sw ||| (1 : Int32) <<< (nI met &&& 31) = nI (sw + 2 ^ met) := or_sh (by omega) b2
    have hC3 := SwC_R (k := i + 1) (f := va_cpy (R2 i) (R2 (i + 1)) 0 0 10) hC2 (by omega)
    refine MW.run1 gd_X3_searchCross [84] 20 ?_
    simp (disch := omega) only [↓EVk, ↓w_if_eq, ↓w_an_ite, ↓mEndK, ↓w_retK0, ↓w_fitK, ↓w_dupK, ↓w_dup2K, w_an_back, ↓EVd, ↓ft_X3_searchCross, ↓reduceIte, ↓EV_obs, ↓EV_obn, ↓EV_ais, ↓EV_ain, ↓EV_ob q0, ↓EV_ar q5, ↓EV_arn, ↓EV_ai ri, ↓EV_ai rj, mdF, mRun, List.mem_cons, List.not_mem_nil, or_false, mtab_eq, Nat.reduceEqDiff, Nat.zero_add, ci, ci1, vi31, vi1, nI_1, hd1, z0, z1, z2, z3, mset2, b10, b00, not_true_eq_false, not_false_eq_true, true_implies, false_implies, implies_true, and_true, true_and, Nat.le_refl, true_or, or_true, eq_self, List.length_cons, List.length_nil, Nat.reduceAdd, Nat.reduceLT, Nat.reduceLeDiff]
    generalize hh : mset h2 (Q + 6 + (i + 1)) (.inl (gC G 0, 10, .inl (va_cpy (R2 i) (R2 (i + 1)) 0 0 10))) = h3 at hC3 ⊢
    have hk3 : mKeep h2 h3 Q (Q + 38) := fun z hz => by rw [← hh, mset_ne (by omega)]
    refine MW.run1 gd_X3_searchCross [] 20 ?_
    simp (disch := omega) only [↓EVk, ↓w_if_eq, ↓w_an_ite, ↓mEndK, ↓w_retK0, ↓w_fitK, ↓w_dupK, ↓w_dup2K, w_an_back, ↓EVd, ↓ft_X3_searchCross, ↓reduceIte, ↓EV_obs, ↓EV_obn, ↓EV_ais, ↓EV_ain, ↓EV_ob hC3.1, mdF, mRun, List.mem_cons, List.not_mem_nil, or_false, mtab_eq, Nat.reduceEqDiff, Nat.zero_add, nI_1, hd1, eo, mset2, b10, b00, not_true_eq_false, not_false_eq_true, true_implies, false_implies, implies_true, and_true, true_and, Nat.le_refl, true_or, or_true, eq_self, List.length_cons, List.length_nil, Nat.reduceAdd, Nat.reduceLT, Nat.reduceLeDiff]
    refine ih (d - 1) N h3 (aset R2 (i + 1) (va_cpy (R2 i) (R2 (i + 1)) 0 0 10)) my fb2 (i + 1) (met + 1) (sw + 2 ^ met) mu st1 _ (by omega) ⟨⟨hC3, hfb2⟩, FR_eq (eqO_of hk3 (by omega)) hF2, fun y hy => ?_, by rw [fk.2]; exact hM, hmy⟩ ⟨by omega, by omega, by omega, by omega, ho1⟩ (fun h4 R4 fb4 hS4 hR4 hk4 => ?_)
    · rw [aset_at, pk_cpy_in (by omega) (by omega), Nat.zero_add, Nat.sub_zero, hR2' i (Nat.le_refl _)]
      exact hR y (by omega)
    simp (disch := omega) only [↓EVk, ↓w_if_eq, ↓w_an_ite, ↓mEndK, ↓w_retK0, ↓w_fitK, ↓w_dupK, ↓w_dup2K, w_an_back, ↓EVd, ↓ft_X3_searchCross, ↓reduceIte, ↓EV_obs, ↓EV_obn, ↓EV_ais, ↓EV_ain, mdF, mRun, List.mem_cons, List.not_mem_nil, or_false, mtab_eq, Nat.reduceEqDiff, Nat.zero_add, mset2, b10, b00, not_true_eq_false, not_false_eq_true, true_implies, false_implies, implies_true, and_true, true_and, Nat.le_refl, true_or, or_true, eq_self, List.length_cons, List.length_nil, Nat.reduceAdd, Nat.reduceLT, Nat.reduceLeDiff]
    refine hp h4 R4 fb4 ?_ (fun j hj => by rw [hR4 j (by omega), aset_ne (by omega)]; exact hR2' j hj) (mKeep_trans hk12 (mKeep_trans hk3 hk4))
    rw [if_pos ⟨c1, c2⟩, hap]
    exact hS4
  cases o with
  | false =>
    simp only [Bool.false_eq_true, ↓reduceIte] at q0
    simp (disch := omega) only [↓EVk, ↓w_if_eq, ↓w_an_ite, ↓mEndK, ↓w_retK0, ↓w_fitK, ↓w_dupK, ↓w_dup2K, w_an_back, ↓EVd, ↓ft_X3_searchCross, ↓reduceIte, ↓EV_obs, ↓EV_obn, ↓EV_ais, ↓EV_ain, ↓EV_ob q0, mdF, mRun, List.mem_cons, List.not_mem_nil, or_false, mtab_eq, Nat.reduceEqDiff, Nat.zero_add, mset2, b10, b00, not_true_eq_false, not_false_eq_true, true_implies, false_implies, implies_true, and_true, true_and, Nat.le_refl, true_or, or_true, eq_self, List.length_cons, List.length_nil, Nat.reduceAdd, Nat.reduceLT, Nat.reduceLeDiff]
    exact go (fun z => absurd z (by decide)) (fun m => by rw [← hst]; unfold tkO; simp [List.foldl_append])
  | true =>
    simp only [↓reduceIte] at q0
    have s0 := b5 rfl
    cases l1 with
    | nil =>
      have e0 : tkO true ([] : List Nat) = [] := rfl
      rw [e0] at hst n1
      have hs1 : st = st1 := hst
      have n0 : st1.1 = 0 := by rw [n1, s0]; rfl
      have w1 : (nI st1.1 ≤ 0) = True := eq_true (by rw [n0]; decide)
      simp (disch := omega) only [↓EVk, ↓w_if_eq, ↓w_an_ite, ↓mEndK, ↓w_retK0, ↓w_fitK, ↓w_dupK, ↓w_dup2K, w_an_back, ↓EVd, ↓ft_X3_searchCross, ↓reduceIte, ↓EV_obs, ↓EV_obn, ↓EV_ais, ↓EV_ain, ↓EV_ob q0, mdF, mRun, List.mem_cons, List.not_mem_nil, or_false, mtab_eq, Nat.reduceEqDiff, Nat.zero_add, w1, mset2, b10, b00, not_true_eq_false, not_false_eq_true, true_implies, false_implies, implies_true, and_true, true_and, Nat.le_refl, true_or, or_true, eq_self, List.length_cons, List.length_nil, Nat.reduceAdd, Nat.reduceLT, Nat.reduceLeDiff]
      exact go (fun _ => n0) (fun m => by rw [hs1]; rfl)
    | cons x l =>
      have e0 : tkO true (x :: l) = [x] := rfl
      rw [e0] at hst n1
      have n0 : st1.1 = 1 := by rw [n1, s0]; rfl
      have w1 : (nI st1.1 ≤ 0) = False := eq_false (by rw [n0]; decide)
      simp (disch := omega) only [↓EVk, ↓w_if_eq, ↓w_an_ite, ↓mEndK, ↓w_retK0, ↓w_fitK, ↓w_dupK, ↓w_dup2K, w_an_back, ↓EVd, ↓ft_X3_searchCross, ↓reduceIte, ↓EV_obs, ↓EV_obn, ↓EV_ais, ↓EV_ain, ↓EV_ob q0, mdF, mRun, List.mem_cons, List.not_mem_nil, or_false, mtab_eq, Nat.reduceEqDiff, Nat.zero_add, w1, mset2, b10, b00, not_true_eq_false, not_false_eq_true, true_implies, false_implies, implies_true, and_true, true_and, Nat.le_refl, true_or, or_true, eq_self, List.length_cons, List.length_nil, Nat.reduceAdd, Nat.reduceLT, Nat.reduceLeDiff]
      refine hp h2 R2 fb2 ?_ hR2' hk12
      have e1 : ∀ m : List Nat, tkO true ((x :: l) ++ m) = [x] := fun m => rfl
      rw [e1, hst]
      exact hS2
set_option maxRecDepth 10000 in
theorem s_search (hw : whl es) (ho : qo + 3 < Q ∨ Q + 38 < qo) : ∀ n, SrchP G Q qo es o may n
  | 0 => by
    intro d N h R my fb i met sw mu st post hd hI hB hp
    obtain ⟨⟨hC, hfb⟩, hF, hR, hM, hmy⟩ := hI
    obtain ⟨b1, b2, b3, b4, b5⟩ := hB
    have hd1 : 1 ≤ d := by omega
    obtain ⟨-, K, P, A, ⟨g0, g1, g2, -⟩, hKP, -⟩ := id hF
    have b30 := (vld_bd hw.1).1
    have h0 := hC.1
    have hil : i = es.length := by omega
    have w1 : (nI es.length ≤ nI i) = True := eq_true (by rw [hil]; exact Int32.le_refl _)
    have hpw := Nat.pow_le_pow_right (n := 2) (by decide) (show met ≤ 12 by omega)
    have b4' : st.1 + 1 ≤ 5000 := b4
    refine MC.of (L0 := [some (.ref Q), some (.int (nI i)), some (.int (nI met)), some (.int (nI sw)), none]) gd_X3_search (Nat.le_of_ble_eq_true rfl) rfl (MW.run gd_X3_search [] 16 ?_)
    simp (disch := omega) only [↓EVk, ↓w_if_eq, ↓w_an_ite, ↓mEndK, ↓w_retK0, ↓w_fitK, ↓w_dupK, ↓w_dup2K, w_an_back, ↓EVd, ↓ft_X3_search, ↓reduceIte, ↓EV_obs, ↓EV_obn, ↓EV_ais, ↓EV_ain, ↓EV_ob h0, ↓EV_ob g0, mdF, mRun, List.mem_cons, List.not_mem_nil, or_false, mtab_eq, Nat.reduceEqDiff, Nat.zero_add, hd1, w1, mset2, b10, b00, not_true_eq_false, not_false_eq_true, true_implies, false_implies, implies_true, and_true, true_and, Nat.le_refl, true_or, or_true, eq_self, List.length_cons, List.length_nil, Nat.reduceAdd, Nat.reduceLT, Nat.reduceLeDiff]
    refine s_note (by omega) ⟨hC, hfb⟩ (by omega) (by omega) (fun h' fb' hS' hk' => ?_)
    simp (disch := omega) only [↓EVk, ↓w_if_eq, ↓w_an_ite, ↓mEndK, ↓w_retK0, ↓w_fitK, ↓w_dupK, ↓w_dup2K, w_an_back, ↓EVd, ↓ft_X3_search, ↓reduceIte, ↓EV_obs, ↓EV_obn, ↓EV_ais, ↓EV_ain, mdF, mRun, List.mem_cons, List.not_mem_nil, or_false, mtab_eq, Nat.reduceEqDiff, Nat.zero_add, mset2, b10, b00, not_true_eq_false, not_false_eq_true, true_implies, false_implies, implies_true, and_true, true_and, Nat.le_refl, true_or, or_true, eq_self, List.length_cons, List.length_nil, Nat.reduceAdd, Nat.reduceLT, Nat.reduceLeDiff]
    refine hp h' R fb' ?_ (fun _ _ => rfl) hk'
    have e1 : tkO o (mks es may 0 i mu met sw) = [sw] := by
      show tkO o [sw] = [sw]
      unfold tkO
      split <;> rfl
    rw [e1]
    exact hS'
  | n + 1 => by
    intro d N h R my fb i met sw mu st post hd hI hB hp
    have ih := s_search hw ho n
    obtain ⟨⟨hC, hfb⟩, hF, hR, hM, hmy⟩ := id hI
    obtain ⟨b1, b2, b3, b4, b5⟩ := id hB
    have hd1 : 1 ≤ d := by omega
    obtain ⟨-, K, P, A, ⟨g0, g1, g2, -⟩, hKP, -⟩ := id hF
    have hi : i < es.length := by omega
    have b30 := (vld_bd hw.1).1
    have sm := vld_sm hw.1 hi
    obtain ⟨k2, a10, e0, e1, e2⟩ := ev_ok hw.1 hi
    have h0 := hC.1
    have q5 := hC.2.1
    have ri := hC.2.2.1 i (by omega)
    have eK : K i = nI (evK es i) := (hKP i hi).1
    have eP : P i = nI (evP es i) := (hKP i hi).2
    have ci : (nI i).toNatClampNeg = i := nI_clamp (by omega)
    have vi : vp_in (nI i) 30 := vp_in_nI (by omega) (by decide)
    have vi31 : vp_in (nI i) 31 := vp_in_nI (by omega) (by decide)
    have w1 : (nI es.length ≤ nI i) = False := eq_false (by simp (disch := omega) only [z_nI, z_lit, z_neg, z_add, z_sub, z_mul, z_lt, z_le, z_eq, z_in, z_cl]; omega)
    have w2 : (nI i < 30) = True := eq_true (by simp (disch := omega) only [z_nI, z_lit, z_neg, z_add, z_sub, z_mul, z_lt, z_le, z_eq, z_in, z_cl]; omega)
    refine MC.of (L0 := [some (.ref Q), some (.int (nI i)), some (.int (nI met)), some (.int (nI sw)), none]) gd_X3_search (Nat.le_of_ble_eq_true rfl) rfl (MW.run gd_X3_search [65] 36 ?_)
    by_cases c0 : evK es i = 0
    · have f0 : (nI (evK es i) = 0) = True := eq_true (by rw [c0]; rfl)
      have fk := e0 c0
      simp (disch := omega) only [↓EVk, ↓w_if_eq, ↓w_an_ite, ↓mEndK, ↓w_retK0, ↓w_fitK, ↓w_dupK, ↓w_dup2K, w_an_back, ↓EVd, ↓ft_X3_search, ↓reduceIte, ↓EV_obs, ↓EV_obn, ↓EV_ais, ↓EV_ain, ↓EV_ob h0, ↓EV_ob g0, ↓EV_ai g1, ↓EV_ai g2, mdF, mRun, List.mem_cons, List.not_mem_nil, or_false, mtab_eq, Nat.reduceEqDiff, Nat.zero_add, hd1, w1, w2, ci, vi, eK, eP, f0, mset2, b10, b00, not_true_eq_false, not_false_eq_true, true_implies, false_implies, implies_true, and_true, true_and, Nat.le_refl, true_or, or_true, eq_self, List.length_cons, List.length_nil, Nat.reduceAdd, Nat.reduceLT, Nat.reduceLeDiff]
      refine s_pairNew hF ho hC hi b30 rfl fk.2.1 fk.1 hR hM (fun h1 f hC1 hf hk1 => ?_)
      simp (disch := omega) only [↓EVk, ↓w_if_eq, ↓w_an_ite, ↓mEndK, ↓w_retK0, ↓w_fitK, ↓w_dupK, ↓w_dup2K, w_an_back, ↓EVd, ↓ft_X3_search, ↓reduceIte, ↓EV_obs, ↓EV_obn, ↓EV_ais, ↓EV_ain, ↓EV_ob hC1.1, mdF, mRun, List.mem_cons, List.not_mem_nil, or_false, mtab_eq, Nat.reduceEqDiff, Nat.zero_add, nI_1, hd1, mset2, b10, b00, not_true_eq_false, not_false_eq_true, true_implies, false_implies, implies_true, and_true, true_and, Nat.le_refl, true_or, or_true, eq_self, List.length_cons, List.length_nil, Nat.reduceAdd, Nat.reduceLT, Nat.reduceLeDiff]
      have ec := crN_s es n i
      rw [if_neg (by omega), Nat.zero_add] at ec
      have em : mks es may (n + 1) i mu met sw = mks es may n (i + 1) (bornF mu (evP es i)) met sw := if_pos c0
      refine ih (d - 1) N h1 (aset R (i + 1) f) my fb (i + 1) met sw (bornF mu (evP es i)) st _ (by omega) ⟨⟨hC1, hfb⟩, FR_eq (eqO_of hk1 (by omega)) hF, fun y hy => by rw [aset_at]; exact hf y (by omega), by rw [fk.2.2]; exact MI_born hM fk.2.1, hmy⟩ ⟨by omega, b2, by omega, by rw [← ec]; exact b4, b5⟩ (fun h2 R2 fb2 hS2 hR2 hk2 => ?_)
      rw [← em] at hS2
      simp (disch := omega) only [↓EVk, ↓w_if_eq, ↓w_an_ite, ↓mEndK, ↓w_retK0, ↓w_fitK, ↓w_dupK, ↓w_dup2K, w_an_back, ↓EVd, ↓ft_X3_search, ↓reduceIte, ↓EV_obs, ↓EV_obn, ↓EV_ais, ↓EV_ain, mdF, mRun, List.mem_cons, List.not_mem_nil, or_false, mtab_eq, Nat.reduceEqDiff, Nat.zero_add, mset2, b10, b00, not_true_eq_false, not_false_eq_true, true_implies, false_implies, implies_true, and_true, true_and, Nat.le_refl, true_or, or_true, eq_self, List.length_cons, List.length_nil, Nat.reduceAdd, Nat.reduceLT, Nat.reduceLeDiff]
      exact hp h2 R2 fb2 hS2 (fun j hj => by rw [hR2 j (by omega), aset_ne (by omega)]) (mKeep_trans hk1 hk2)
    have f0 : (nI (evK es i) = 0) = False := eq_false (fun z => c0 ((nI_eq (b := 0) (by omega) (by omega)).mp z))
    simp (disch := omega) only [↓EVk, ↓w_if_eq, ↓w_an_ite, ↓mEndK, ↓w_retK0, ↓w_fitK, ↓w_dupK, ↓w_dup2K, w_an_back, ↓EVd, ↓ft_X3_search, ↓reduceIte, ↓EV_obs, ↓EV_obn, ↓EV_ais, ↓EV_ain, ↓EV_ob h0, ↓EV_ob g0, ↓EV_ai g1, ↓EV_ai g2, mdF, mRun, List.mem_cons, List.not_mem_nil, or_false, mtab_eq, Nat.reduceEqDiff, Nat.zero_add, hd1, w1, w2, ci, vi, eK, eP, f0, mset2, b10, b00, not_true_eq_false, not_false_eq_true, true_implies, false_implies, implies_true, and_true, true_and, Nat.le_refl, true_or, or_true, eq_self, List.length_cons, List.length_nil, Nat.reduceAdd, Nat.reduceLT, Nat.reduceLeDiff]
    have hpa : evP es i + 2 ≤ aN es i := by
      rcases (by omega : evK es i = 1 ∨ evK es i = 2) with c | c
      · exact (e1 c).1
      · exact (e2 c).1
    have ck : (nI (evP es i)).toNatClampNeg = evP es i := nI_clamp (by omega)
    have vk : vp_in (nI (evP es i)) 10 := vp_in_nI (by omega) (by decide)
    have er := hR (evP es i) (by omega)
    have hml := (hM (evP es i) (by omega)).1
    refine MW.run1 gd_X3_search [] 36 ?_
    by_cases c1 : mu (evP es i) = evP es i + 1
    · have f1 : (nI (mu (evP es i)) = nI (evP es i + 1)) = True := eq_true (by rw [c1])
      simp (disch := omega) only [↓EVk, ↓w_if_eq, ↓w_an_ite, ↓mEndK, ↓w_retK0, ↓w_fitK, ↓w_dupK, ↓w_dup2K, w_an_back, ↓EVd, ↓ft_X3_search, ↓reduceIte, ↓EV_obs, ↓EV_obn, ↓EV_ais, ↓EV_ain, ↓EV_ob h0, ↓EV_ob g0, ↓EV_ar q5, ↓EV_arn, ↓EV_ai ri, mdF, mRun, List.mem_cons, List.not_mem_nil, or_false, mtab_eq, Nat.reduceEqDiff, Nat.zero_add, hd1, ci, vi31, ck, vk, er, nI_1, f1, mset2, b10, b00, not_true_eq_false, not_false_eq_true, true_implies, false_implies, implies_true, and_true, true_and, Nat.le_refl, true_or, or_true, eq_self, List.length_cons, List.length_nil, Nat.reduceAdd, Nat.reduceLT, Nat.reduceLeDiff]
      refine s_searchPaired ih hw ho (by omega) hI hB c0 c1 (fun h2 R2 fb2 hS2 hR2 hk2 => ?_)
      simp (disch := omega) only [↓EVk, ↓w_if_eq, ↓w_an_ite, ↓mEndK, ↓w_retK0, ↓w_fitK, ↓w_dupK, ↓w_dup2K, w_an_back, ↓EVd, ↓ft_X3_search, ↓reduceIte, ↓EV_obs, ↓EV_obn, ↓EV_ais, ↓EV_ain, mdF, mRun, List.mem_cons, List.not_mem_nil, or_false, mtab_eq, Nat.reduceEqDiff, Nat.zero_add, mset2, b10, b00, not_true_eq_false, not_false_eq_true, true_implies, false_implies, implies_true, and_true, true_and, Nat.le_refl, true_or, or_true, eq_self, List.length_cons, List.length_nil, Nat.reduceAdd, Nat.reduceLT, Nat.reduceLeDiff]
      exact hp h2 R2 fb2 hS2 hR2 hk2
    have f1 : (nI (mu (evP es i)) = nI (evP es i + 1)) = False := eq_false (fun z => c1 ((nI_eq (by omega) (by omega)).mp z))
    by_cases c2 : evK es i = 1
    · have f2 : (nI (evK es i) = 1) = True := eq_true (by rw [c2]; rfl)
      simp (disch := omega) only [↓EVk, ↓w_if_eq, ↓w_an_ite, ↓mEndK, ↓w_retK0, ↓w_fitK, ↓w_dupK, ↓w_dup2K, w_an_back, ↓EVd, ↓ft_X3_search, ↓reduceIte, ↓EV_obs, ↓EV_obn, ↓EV_ais, ↓EV_ain, ↓EV_ob h0, ↓EV_ob g0, ↓EV_ar q5, ↓EV_arn, ↓EV_ai ri, ↓EV_ai g1, mdF, mRun, List.mem_cons, List.not_mem_nil, or_false, mtab_eq, Nat.reduceEqDiff, Nat.zero_add, hd1, ci, vi31, vi, eK, ck, vk, er, nI_1, f1, f2, mset2, b10, b00, not_true_eq_false, not_false_eq_true, true_implies, false_implies, implies_true, and_true, true_and, Nat.le_refl, true_or, or_true, eq_self, List.length_cons, List.length_nil, Nat.reduceAdd, Nat.reduceLT, Nat.reduceLeDiff]
      refine s_searchCross ih hw ho (by omega) hI hB c2 c1 (fun h2 R2 fb2 hS2 hR2 hk2 => ?_)
      simp (disch := omega) only [↓EVk, ↓w_if_eq, ↓w_an_ite, ↓mEndK, ↓w_retK0, ↓w_fitK, ↓w_dupK, ↓w_dup2K, w_an_back, ↓EVd, ↓ft_X3_search, ↓reduceIte, ↓EV_obs, ↓EV_obn, ↓EV_ais, ↓EV_ain, mdF, mRun, List.mem_cons, List.not_mem_nil, or_false, mtab_eq, Nat.reduceEqDiff, Nat.zero_add, mset2, b10, b00, not_true_eq_false, not_false_eq_true, true_implies, false_implies, implies_true, and_true, true_and, Nat.le_refl, true_or, or_true, eq_self, List.length_cons, List.length_nil, Nat.reduceAdd, Nat.reduceLT, Nat.reduceLeDiff]
      exact hp h2 R2 fb2 hS2 hR2 hk2
    · have f2 : (nI (evK es i) = 1) = False := eq_false (fun z => c2 ((nI_eq (b := 1) (by omega) (by omega)).mp z))
      simp (disch := omega) only [↓EVk, ↓w_if_eq, ↓w_an_ite, ↓mEndK, ↓w_retK0, ↓w_fitK, ↓w_dupK, ↓w_dup2K, w_an_back, ↓EVd, ↓ft_X3_search, ↓reduceIte, ↓EV_obs, ↓EV_obn, ↓EV_ais, ↓EV_ain, ↓EV_ob h0, ↓EV_ob g0, ↓EV_ar q5, ↓EV_arn, ↓EV_ai ri, ↓EV_ai g1, mdF, mRun, List.mem_cons, List.not_mem_nil, or_false, mtab_eq, Nat.reduceEqDiff, Nat.zero_add, hd1, ci, vi31, vi, eK, ck, vk, er, nI_1, f1, f2, mset2, b10, b00, not_true_eq_false, not_false_eq_true, true_implies, false_implies, implies_true, and_true, true_and, Nat.le_refl, true_or, or_true, eq_self, List.length_cons, List.length_nil, Nat.reduceAdd, Nat.reduceLT, Nat.reduceLeDiff]
      refine hp h R fb ?_ (fun _ _ => rfl) mKeep_rfl
      have em : mks es may (n + 1) i mu met sw = [] := by
        show (if _ then _ else if _ then _ else _) = _
        rw [if_neg c0, if_pos (by omega), if_neg c1]
      have et : tkO o ([] : List Nat) = [] := by unfold tkO; split <;> rfl
      rw [em, et]
      exact ⟨hC, hfb⟩
end SRS
