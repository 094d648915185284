/-! Switching: rows of mates, notes -/
def ush (x y : Int32) : Int32 := (x.toUInt32 >>> (y.toUInt32 &&& Int32.toUInt32 31)).toInt32
def bc1 (i : Int32) : Int32 := i - (ush i 1 &&& 1431655765)
def bc2 (i : Int32) : Int32 := (i &&& 858993459) + (ush i 2 &&& 858993459)
def bc3 (i : Int32) : Int32 := (i + ush i 4) &&& 252645135
def bc4 (i : Int32) : Int32 := i + ush i 8
def bc5 (i : Int32) : Int32 := i + ush i 16
theorem bc_key : (List.range 4096).all (fun s => (bc5 (bc4 (bc3 (bc2 (bc1 (nI s))))) &&& 63) == nI (pcN 12 s)) = true := by decide +kernel
set_option maxRecDepth 100000 in
theorem tabI_ok : rTabI.all (fun q => decide (lw_tbl[q.2.2.2]? = some (.constant (mOwn q.1) q.2.1 q.2.2.1))) = true := by decide +kernel
theorem MW.ldcw {G : mG} {M : mI} {Z : mZ} {pc idx : Nat} {v : Int32} {r : List Value} {L : mL} {h : mH} {al : mAl} (hr : rTabI.any (fun q => q.1 == mCls M && (q.2.1 == idx && q.2.2.1 == v)) = true) (hd : decode (mCd M) pc = .ok (.ldc_w idx, 3))
    (k : MW G M Z (pc + 3) L (.int v :: r) h al) : MW G M Z pc L r h al := by
  intro p e s m args below meth c C X H locs ls hN hP hS hL
  have kk := k p e s m args below meth c C X H locs ls hN hP hS hL
  obtain ⟨hx, hb, -, hml, hown, hts, -, hK, hgS, hB, hnm⟩ := C
  obtain ⟨q, hq, h2⟩ := List.any_eq_true.mp hr
  simp only [Bool.and_eq_true, beq_iff_eq] at h2
  obtain ⟨e1, rfl, rfl⟩ := h2
  have ok := of_decide_eq_true (List.all_eq_true.mp tabI_ok q hq)
  rw [e1] at ok
  exact lv_ldcw hx hb hown (hts _ (mem_g ok rfl)) hd kk
section SWS
variable {h : mH} {G : mG} {Q qo : Nat} {one fnd fst : Int32} {R : Nat → Nat → Int32} {my fb : Nat → Int32} {d N : Nat} {post : Option Value → mH → Prop}
set_option maxRecDepth 10000 in
theorem j_bitCount {s : Nat} (hs : s < 4096) (hp : post (some (.int (nI (pcN 12 s)))) h) : MC G MJ6_bitCount_0f7a4 d 0 0 [.int (nI s)] h N post := by
  have key := List.all_eq_true.mp bc_key s (List.mem_range.mpr hs)
  rw [beq_iff_eq] at key
  rw [← key] at hp
  generalize nI s = i at *
  refine MC.of (L0 := [some (.int i)]) gd_J6_bitCount_0f7a4 (Nat.le_of_ble_eq_true rfl) rfl (MW.run gd_J6_bitCount_0f7a4 [4] 20 ?_)
  simp (disch := omega) only [↓EVi, ↓EVc, ↓ft_J6_bitCount_0f7a4, ↓reduceIte, ↓EV_obs, ↓EV_obn, ↓EV_ais, ↓EV_ain, mdF, mRun, List.mem_cons, List.not_mem_nil, or_false, mtab_eq, Nat.reduceEqDiff, Nat.zero_add, mset2, b10, b00, not_true_eq_false, not_false_eq_true, true_implies, false_implies, implies_true, and_true, true_and, Nat.le_refl, true_or, or_true, eq_self, List.length_cons, List.length_nil, Nat.reduceAdd, Nat.reduceLT, Nat.reduceLeDiff]
  refine MW.ldcw (v := 1431655765) (by decide) (MW.dec gd_J6_bitCount_0f7a4 (pc := 4) rfl) (MW.run gd_J6_bitCount_0f7a4 [10] 20 ?_)
  simp (disch := omega) only [↓EVi, ↓EVc, ↓ft_J6_bitCount_0f7a4, ↓reduceIte, ↓EV_obs, ↓EV_obn, ↓EV_ais, ↓EV_ain, mdF, mRun, List.mem_cons, List.not_mem_nil, or_false, mtab_eq, Nat.reduceEqDiff, Nat.zero_add, mset2, b10, b00, not_true_eq_false, not_false_eq_true, true_implies, false_implies, implies_true, and_true, true_and, Nat.le_refl, true_or, or_true, eq_self, List.length_cons, List.length_nil, Nat.reduceAdd, Nat.reduceLT, Nat.reduceLeDiff]
  show MW G MJ6_bitCount_0f7a4 (mz G d 0 0 post) 10 [some (.int (bc1 i))] [] h (N, 0, 0)
  generalize bc1 i = i at *
  refine MW.run1 gd_J6_bitCount_0f7a4 [11] 20 ?_
  simp (disch := omega) only [↓EVi, ↓EVc, ↓ft_J6_bitCount_0f7a4, ↓reduceIte, ↓EV_obs, ↓EV_obn, ↓EV_ais, ↓EV_ain, mdF, mRun, List.mem_cons, List.not_mem_nil, or_false, mtab_eq, Nat.reduceEqDiff, Nat.zero_add, mset2, b10, b00, not_true_eq_false, not_false_eq_true, true_implies, false_implies, implies_true, and_true, true_and, Nat.le_refl, true_or, or_true, eq_self, List.length_cons, List.length_nil, Nat.reduceAdd, Nat.reduceLT, Nat.reduceLeDiff]
  refine MW.ldcw (v := 858993459) (by decide) (MW.dec gd_J6_bitCount_0f7a4 (pc := 11) rfl) (MW.run gd_J6_bitCount_0f7a4 [18] 20 ?_)
  simp (disch := omega) only [↓EVi, ↓EVc, ↓ft_J6_bitCount_0f7a4, ↓reduceIte, ↓EV_obs, ↓EV_obn, ↓EV_ais, ↓EV_ain, mdF, mRun, List.mem_cons, List.not_mem_nil, or_false, mtab_eq, Nat.reduceEqDiff, Nat.zero_add, mset2, b10, b00, not_true_eq_false, not_false_eq_true, true_implies, false_implies, implies_true, and_true, true_and, Nat.le_refl, true_or, or_true, eq_self, List.length_cons, List.length_nil, Nat.reduceAdd, Nat.reduceLT, Nat.reduceLeDiff]
  refine MW.ldcw (v := 858993459) (by decide) (MW.dec gd_J6_bitCount_0f7a4 (pc := 18) rfl) (MW.run gd_J6_bitCount_0f7a4 [24] 20 ?_)
  simp (disch := omega) only [↓EVi, ↓EVc, ↓ft_J6_bitCount_0f7a4, ↓reduceIte, ↓EV_obs, ↓EV_obn, ↓EV_ais, ↓EV_ain, mdF, mRun, List.mem_cons, List.not_mem_nil, or_false, mtab_eq, Nat.reduceEqDiff, Nat.zero_add, mset2, b10, b00, not_true_eq_false, not_false_eq_true, true_implies, false_implies, implies_true, and_true, true_and, Nat.le_refl, true_or, or_true, eq_self, List.length_cons, List.length_nil, Nat.reduceAdd, Nat.reduceLT, Nat.reduceLeDiff]
  show MW G MJ6_bitCount_0f7a4 (mz G d 0 0 post) 24 [some (.int (bc2 i))] [] h (N, 0, 0)
  generalize bc2 i = i at *
  refine MW.run1 gd_J6_bitCount_0f7a4 [29] 20 ?_
  simp (disch := omega) only [↓EVi, ↓EVc, ↓ft_J6_bitCount_0f7a4, ↓reduceIte, ↓EV_obs, ↓EV_obn, ↓EV_ais, ↓EV_ain, mdF, mRun, List.mem_cons, List.not_mem_nil, or_false, mtab_eq, Nat.reduceEqDiff, Nat.zero_add, mset2, b10, b00, not_true_eq_false, not_false_eq_true, true_implies, false_implies, implies_true, and_true, true_and, Nat.le_refl, true_or, or_true, eq_self, List.length_cons, List.length_nil, Nat.reduceAdd, Nat.reduceLT, Nat.reduceLeDiff]
  refine MW.ldcw (v := 252645135) (by decide) (MW.dec gd_J6_bitCount_0f7a4 (pc := 29) rfl) (MW.run gd_J6_bitCount_0f7a4 [34] 20 ?_)
  simp (disch := omega) only [↓EVi, ↓EVc, ↓ft_J6_bitCount_0f7a4, ↓reduceIte, ↓EV_obs, ↓EV_obn, ↓EV_ais, ↓EV_ain, mdF, mRun, List.mem_cons, List.not_mem_nil, or_false, mtab_eq, Nat.reduceEqDiff, Nat.zero_add, mset2, b10, b00, not_true_eq_false, not_false_eq_true, true_implies, false_implies, implies_true, and_true, true_and, Nat.le_refl, true_or, or_true, eq_self, List.length_cons, List.length_nil, Nat.reduceAdd, Nat.reduceLT, Nat.reduceLeDiff]
  show MW G MJ6_bitCount_0f7a4 (mz G d 0 0 post) 34 [some (.int (bc3 i))] [] h (N, 0, 0)
  generalize bc3 i = i at *
  refine MW.run1 gd_J6_bitCount_0f7a4 [41] 20 ?_
  simp (disch := omega) only [↓EVi, ↓EVc, ↓ft_J6_bitCount_0f7a4, ↓reduceIte, ↓EV_obs, ↓EV_obn, ↓EV_ais, ↓EV_ain, mdF, mRun, List.mem_cons, List.not_mem_nil, or_false, mtab_eq, Nat.reduceEqDiff, Nat.zero_add, mset2, b10, b00, not_true_eq_false, not_false_eq_true, true_implies, false_implies, implies_true, and_true, true_and, Nat.le_refl, true_or, or_true, eq_self, List.length_cons, List.length_nil, Nat.reduceAdd, Nat.reduceLT, Nat.reduceLeDiff]
  show MW G MJ6_bitCount_0f7a4 (mz G d 0 0 post) 41 [some (.int (bc4 i))] [] h (N, 0, 0)
  generalize bc4 i = i at *
  refine MW.run1 gd_J6_bitCount_0f7a4 [48] 20 ?_
  simp (disch := omega) only [↓EVi, ↓EVc, ↓ft_J6_bitCount_0f7a4, ↓reduceIte, ↓EV_obs, ↓EV_obn, ↓EV_ais, ↓EV_ain, mdF, mRun, List.mem_cons, List.not_mem_nil, or_false, mtab_eq, Nat.reduceEqDiff, Nat.zero_add, mset2, b10, b00, not_true_eq_false, not_false_eq_true, true_implies, false_implies, implies_true, and_true, true_and, Nat.le_refl, true_or, or_true, eq_self, List.length_cons, List.length_nil, Nat.reduceAdd, Nat.reduceLT, Nat.reduceLeDiff]
  show MW G MJ6_bitCount_0f7a4 (mz G d 0 0 post) 48 [some (.int (bc5 i))] [] h (N, 0, 0)
  generalize bc5 i = i at *
  refine MW.run1 gd_J6_bitCount_0f7a4 [] 20 ?_
  simp (disch := omega) only [↓EVi, ↓EVc, ↓ft_J6_bitCount_0f7a4, ↓reduceIte, ↓EV_obs, ↓EV_obn, ↓EV_ais, ↓EV_ain, mdF, mRun, List.mem_cons, List.not_mem_nil, or_false, mtab_eq, Nat.reduceEqDiff, Nat.zero_add, mset2, b10, b00, not_true_eq_false, not_false_eq_true, true_implies, false_implies, implies_true, and_true, true_and, Nat.le_refl, true_or, or_true, eq_self, List.length_cons, List.length_nil, Nat.reduceAdd, Nat.reduceLT, Nat.reduceLeDiff]
  exact hp
theorem SwC_v {qo' : Nat} {one' fnd' fst' : Int32} (hS : SwC h G Q qo one fnd fst R my fb) : SwC (mset h Q (.inr (3, [.ref qo', .ref (Q + 5), .ref (Q + 37), .ref (Q + 38), .int one', .int fnd', .int fst']))) G Q qo' one' fnd' fst' R my fb := by
  obtain ⟨h0, h1, h2, h3, h4⟩ := hS
  exact ⟨mset_same, by rw [mset_ne (by omega)]; exact h1, fun i hi => by rw [mset_ne (by omega)]; exact h2 i hi, by rw [mset_ne (by omega)]; exact h3, by rw [mset_ne (by omega)]; exact h4⟩
theorem SwC_R {k : Nat} {f : Nat → Int32} (hS : SwC h G Q qo one fnd fst R my fb) (hk : k < 31) : SwC (mset h (Q + 6 + k) (.inl (gC G 0, 10, .inl f))) G Q qo one fnd fst (aset R k f) my fb := by
  obtain ⟨h0, h1, h2, h3, h4⟩ := hS
  refine ⟨by rw [mset_ne (by omega)]; exact h0, by rw [mset_ne (by omega)]; exact h1, fun j hj => ?_, by rw [mset_ne (by omega)]; exact h3, by rw [mset_ne (by omega)]; exact h4⟩
  unfold aset
  by_cases c : j = k
  · subst c
    rw [mset_same, if_pos rfl]
  · rw [mset_ne (by omega), if_neg c]
    exact h2 j hj
theorem SwC_my {f : Nat → Int32} (hS : SwC h G Q qo one fnd fst R my fb) : SwC (mset h (Q + 37) (.inl (gC G 2, 30, .inl f))) G Q qo one fnd fst R f fb := by
  obtain ⟨h0, h1, h2, h3, h4⟩ := hS
  exact ⟨by rw [mset_ne (by omega)]; exact h0, by rw [mset_ne (by omega)]; exact h1, fun j hj => by rw [mset_ne (by omega)]; exact h2 j hj, mset_same, by rw [mset_ne (by omega)]; exact h4⟩
theorem SwC_fb {f : Nat → Int32} (hS : SwC h G Q qo one fnd fst R my fb) : SwC (mset h (Q + 38) (.inl (gC G 0, 13, .inl f))) G Q qo one fnd fst R my f := by
  obtain ⟨h0, h1, h2, h3, h4⟩ := hS
  exact ⟨by rw [mset_ne (by omega)]; exact h0, by rw [mset_ne (by omega)]; exact h1, fun j hj => by rw [mset_ne (by omega)]; exact h2 j hj, by rw [mset_ne (by omega)]; exact h3, mset_same⟩
/-- what is found so far, in the switching's cells -/
def SwS (h : mH) (G : mG) (Q qo : Nat) (one : Bool) (st : NS) (R : Nat → Nat → Int32) (my fb : Nat → Int32) : Prop := SwC h G Q qo (if one = true then 1 else 0) (nI st.1) (nI st.2.1) R my fb ∧ ∀ k, k ≤ 12 → fb k = nI (st.2.2 k)
theorem pcN_le : ∀ k s, pcN k s ≤ k
  | 0, _ => Nat.le_refl _
  | k + 1, s => by
    have := pcN_le k (s / 2)
    show s % 2 + pcN k (s / 2) ≤ k + 1
    omega
set_option maxRecDepth 10000 in
theorem s_note {o : Bool} {st : NS} {s : Nat} (hd : 1 ≤ d) (hS : SwS h G Q qo o st R my fb) (hs : s < 4096) (hb : st.1 < 1000000)
    (hp : ∀ h' fb', SwS h' G Q qo o (ntS st s) R my fb' → mKeep h h' Q (Q + 38) → post none h') : MC G MX3_note d 0 0 [.ref Q, .int (nI s)] h N post := by
  obtain ⟨hC, hf⟩ := hS
  have h0 := hC.1
  have hn := pcN_le 12 s
  have a0 : h (Q + 38) = some (.inl (gC G 0, 13, .inl fb)) := hC.2.2.2.2
  have cn : (nI (pcN 12 s)).toNatClampNeg = pcN 12 s := nI_clamp (by omega)
  have vn : vp_in (nI (pcN 12 s)) 13 := vp_in_nI (by omega) (by decide)
  have w2 : ((12 : Int32) < nI (pcN 12 s)) = False := eq_false (by simp (disch := omega) only [z_nI, z_lit, z_neg, z_add, z_sub, z_mul, z_lt, z_le, z_eq, z_in, z_cl]; omega)
  have fin : ∀ h', h' = mset (mset h Q (.inr (3, [.ref qo, .ref (Q + 5), .ref (Q + 37), .ref (Q + 38), .int (if o = true then 1 else 0), .int (nI (st.1 + 1)), .int (nI (if st.1 = 0 then s else st.2.1))]))) (Q + 38) (.inl (gC G 0, 13, .inl (upd fb (pcN 12 s) (nI (st.2.2 (pcN 12 s) + 1))))) → post none h' := by
    rintro h' rfl
    refine hp _ _ ⟨SwC_fb (SwC_v hC), fun k hk => ?_⟩ (fun z hz => by simp (disch := omega) only [mset_ne])
    show upd fb (pcN 12 s) (nI (st.2.2 (pcN 12 s) + 1)) k = nI (if k = pcN 12 s then st.2.2 k + 1 else st.2.2 k)
    by_cases c : k = pcN 12 s
    · rw [if_pos c, ← c, pk_us]
    · rw [if_neg c, pk_un c]
      exact hf k hk
  have ef : fb (pcN 12 s) = nI (st.2.2 (pcN 12 s)) := hf _ hn
  refine MC.of (L0 := [some (.ref Q), some (.int (nI s)), none]) gd_X3_note (Nat.le_of_ble_eq_true rfl) rfl (MW.run gd_X3_note [] 34 ?_)
  by_cases c0 : st.1 = 0
  · have w1 : (nI st.1 = 0) = True := eq_true (by rw [c0]; rfl)
    rw [if_pos c0] at fin
    simp (disch := omega) only [↓EVk, ↓w_if_eq, ↓w_an_ite, ↓mEndK, ↓w_retK0, ↓w_fitK, ↓w_dupK, ↓w_dup2K, w_an_back, ↓EVd, ↓ft_X3_note, ↓reduceIte, ↓EV_obs, ↓EV_obn, ↓EV_ais, ↓EV_ain, ↓EV_ob h0, mdF, mRun, List.mem_cons, List.not_mem_nil, or_false, mtab_eq, Nat.reduceEqDiff, Nat.zero_add, w1, nI_1, hd, mset2, b10, b00, not_true_eq_false, not_false_eq_true, true_implies, false_implies, implies_true, and_true, true_and, Nat.le_refl, true_or, or_true, eq_self, List.length_cons, List.length_nil, Nat.reduceAdd, Nat.reduceLT, Nat.reduceLeDiff]
    refine j_bitCount hs ?_
    simp (disch := omega) only [↓EVk, ↓w_if_eq, ↓w_an_ite, ↓mEndK, ↓w_retK0, ↓w_fitK, ↓w_dupK, ↓w_dup2K, w_an_back, ↓EVd, ↓ft_X3_note, ↓reduceIte, ↓EV_obs, ↓EV_obn, ↓EV_ais, ↓EV_ain, ↓EV_ai a0, mdF, mRun, List.mem_cons, List.not_mem_nil, or_false, mtab_eq, Nat.reduceEqDiff, Nat.zero_add, w2, cn, vn, ef, nI_1, mset2, b10, b00, not_true_eq_false, not_false_eq_true, true_implies, false_implies, implies_true, and_true, true_and, Nat.le_refl, true_or, or_true, eq_self, List.length_cons, List.length_nil, Nat.reduceAdd, Nat.reduceLT, Nat.reduceLeDiff]
    exact fin _ rfl
  · have w1 : (nI st.1 = 0) = False := eq_false (fun z => c0 ((nI_eq (b := 0) (by omega) (by omega)).mp z))
    rw [if_neg c0] at fin
    simp (disch := omega) only [↓EVk, ↓w_if_eq, ↓w_an_ite, ↓mEndK, ↓w_retK0, ↓w_fitK, ↓w_dupK, ↓w_dup2K, w_an_back, ↓EVd, ↓ft_X3_note, ↓reduceIte, ↓EV_obs, ↓EV_obn, ↓EV_ais, ↓EV_ain, ↓EV_ob h0, mdF, mRun, List.mem_cons, List.not_mem_nil, or_false, mtab_eq, Nat.reduceEqDiff, Nat.zero_add, w1, nI_1, hd, mset2, b10, b00, not_true_eq_false, not_false_eq_true, true_implies, false_implies, implies_true, and_true, true_and, Nat.le_refl, true_or, or_true, eq_self, List.length_cons, List.length_nil, Nat.reduceAdd, Nat.reduceLT, Nat.reduceLeDiff]
    refine j_bitCount hs ?_
    simp (disch := omega) only [↓EVk, ↓w_if_eq, ↓w_an_ite, ↓mEndK, ↓w_retK0, ↓w_fitK, ↓w_dupK, ↓w_dup2K, w_an_back, ↓EVd, ↓ft_X3_note, ↓reduceIte, ↓EV_obs, ↓EV_obn, ↓EV_ais, ↓EV_ain, ↓EV_ai a0, mdF, mRun, List.mem_cons, List.not_mem_nil, or_false, mtab_eq, Nat.reduceEqDiff, Nat.zero_add, w2, cn, vn, ef, nI_1, mset2, b10, b00, not_true_eq_false, not_false_eq_true, true_implies, false_implies, implies_true, and_true, true_and, Nat.le_refl, true_or, or_true, eq_self, List.length_cons, List.length_nil, Nat.reduceAdd, Nat.reduceLT, Nat.reduceLeDiff]
    exact fin _ rfl
end SWS
