/-! the model: piece, sign, about, number, link -/
noncomputable def aPiece (f i k : Int32) (S : AS) : Int32 × AS := (if isF S f ∧ (0 ≤ i ∧ i < nI (fr S f).length) ∧ (0 ≤ k ∧ k < nI (aN (fr S f) i.toNatClampNeg)) then nI (tM (fr S f) (arcF (fr S f) i.toNatClampNeg k.toNatClampNeg)).1 else -1, S)
abbrev isX (S : AS) (f i : Int32) : Prop := (isF S f ∧ (0 ≤ i ∧ i < nI (fr S f).length)) ∧ evK (fr S f) i.toNatClampNeg = 1
noncomputable def aSign (f i : Int32) (S : AS) : Int32 × AS := (if isX S f i then (if plus (fr S f) i.toNatClampNeg = true then 1 else 0) else -1, S)
noncomputable def aAbout (f w : Int32) (S : AS) : Int32 × AS := (if isF S f ∧ (0 ≤ w ∧ w ≤ 5) then (if w = 0 then nI (fr S f).length else if w = 1 then nI (crs (fr S f)) else if w = 2 then nI (dthC (fr S f) (fr S f).length) else if w = 3 then nI (nP (fr S f)) else if w = 4 then nI (mstC (fr S f) (fr S f).length) else nI (plsC (fr S f) (fr S f).length)) else -1, S)
noncomputable def aNumber (f p w : Int32) (S : AS) : Int32 × AS := (if isF S f ∧ (0 ≤ w ∧ w ≤ 4) ∧ (0 ≤ p ∧ p < nI (nP (fr S f))) then
    (if w = 0 then zI (sgM (fr S f) p.toNatClampNeg p.toNatClampNeg (fr S f).length) else if w = 1 then zI (sgM (fr S f) p.toNatClampNeg p.toNatClampNeg (fr S f).length) - nI (dtM (fr S f) p.toNatClampNeg (fr S f).length) else if w = 2 then (nI (tD (fr S f) p.toNatClampNeg) - nI (tU (fr S f) p.toNatClampNeg)) / 2 else if w = 3 then nI (tU (fr S f) p.toNatClampNeg) + nI (tD (fr S f) p.toNatClampNeg) else nI (tF (fr S f) p.toNatClampNeg)) else -1000, S)
noncomputable def aLink (f p q : Int32) (S : AS) : Int32 × AS := (if isF S f ∧ (0 ≤ p ∧ p < nI (nP (fr S f))) ∧ (0 ≤ q ∧ q < nI (nP (fr S f))) ∧ ¬ p = q then zI (sgM (fr S f) p.toNatClampNeg q.toNatClampNeg (fr S f).length) / 2 else -1000, S)
section GOS
variable {G : mG} {d N M : Nat} {S : AS} {h : mH} {post : Option Value → mH → Prop}
theorem MRel_tr {v v' : Nat → Int32} {a a' : Nat → Nat → Int32} (hL : MRel v a S) (hv : ∀ k, k ≠ 24 → v' k = v k) (ha : ∀ k, k ≤ 9 ∨ 16 ≤ k → a' k = a k) : MRel v' a' S := MRel_congr hL (fun k hk => hv k (by omega)) (fun k hk => ha k (by omega))
set_option maxRecDepth 10000 in
theorem M_piece {f i k : Int32} (hd : 3 ≤ d) (hI : SInv S) (hR : MR h G M S) (hp : ∀ h', MR h' G M (aPiece f i k S).2 → mKeep h h' M (M + 17) → post (some (.int (aPiece f i k S).1)) h') : MC G MX7_piece d 0 0 [.ref M, .int f, .int i, .int k] h N post := by
  have hR0 := hR
  have h8 := hI.1
  have hd1 : 1 ≤ d := by omega
  obtain ⟨v, a, hM, hL⟩ := hR
  have h0 := hM.1
  unfold aPiece at hp
  refine MC.of (L0 := [some (.ref M), some (.int f), some (.int i), some (.int k)]) gd_X7_piece (Nat.le_of_ble_eq_true rfl) rfl (MW.run gd_X7_piece [] 30 ?_)
  simp (disch := omega) only [↓EVi, ↓EVc, ↓ft_X7_piece, ↓reduceIte, ↓EV_obs, ↓EV_obn, ↓EV_ais, ↓EV_ain, ↓EV_ob h0, mdF, mRun, List.mem_cons, List.not_mem_nil, or_false, mtab_eq, Nat.reduceEqDiff, Nat.zero_add, hd1, mset2, b10, b00, not_true_eq_false, not_false_eq_true, true_implies, false_implies, implies_true, and_true, true_and, Nat.le_refl, true_or, or_true, eq_self, List.length_cons, List.length_nil, Nat.reduceAdd, Nat.reduceLT, Nat.reduceLeDiff]
  refine c_isEvent (by omega) hI hM hL ?_
  by_cases c : isF S f ∧ (0 ≤ i ∧ i < nI (fr S f).length)
  case neg =>
    rw [if_neg c]
    rw [if_neg (fun z => c ⟨z.1, z.2.1⟩)] at hp
    simp (disch := omega) only [↓EVi, ↓EVc, ↓ft_X7_piece, ↓reduceIte, ↓EV_obs, ↓EV_obn, ↓EV_ais, ↓EV_ain, ↓EV_ob h0, mdF, mRun, List.mem_cons, List.not_mem_nil, or_false, mtab_eq, Nat.reduceEqDiff, Nat.zero_add, hd1, mset2, b10, b00, not_true_eq_false, not_false_eq_true, true_implies, false_implies, implies_true, and_true, true_and, Nat.le_refl, true_or, or_true, eq_self, List.length_cons, List.length_nil, Nat.reduceAdd, Nat.reduceLT, Nat.reduceLeDiff]
    exact hp h hR0 mKeep_rfl
  rw [if_pos c]
  simp (disch := omega) only [↓EVi, ↓EVc, ↓ft_X7_piece, ↓reduceIte, ↓EV_obs, ↓EV_obn, ↓EV_ais, ↓EV_ain, ↓EV_ob h0, mdF, mRun, List.mem_cons, List.not_mem_nil, or_false, mtab_eq, Nat.reduceEqDiff, Nat.zero_add, hd1, mset2, b10, b00, not_true_eq_false, not_false_eq_true, true_implies, false_implies, implies_true, and_true, true_and, Nat.le_refl, true_or, or_true, eq_self, List.length_cons, List.length_nil, Nat.reduceAdd, Nat.reduceLT, Nat.reduceLeDiff]
  rcases isF_c S f hI with z | ⟨q, hq, rfl, -, hfr⟩
  · exact absurd c.1 z
  have hs := hL.2.1 q hq
  have hw := hI.2.1 q hq
  have b := vld_bd hw.1
  rw [hfr] at c hp
  rcases arg_ix i (n := (S.1.getD q []).length) (by omega) with z | ⟨j, hj, rfl⟩
  · exact absurd c.2 z
  rw [nI_clamp (n := j) (by omega)] at hp
  have hA := (vld_le hw.1 j (by omega)).2.1
  refine m_ahead (by omega) hM hs hw.1 (by omega) (by omega) ?_
  simp (disch := omega) only [↓EVi, ↓EVc, ↓ft_X7_piece, ↓reduceIte, ↓EV_obs, ↓EV_obn, ↓EV_ais, ↓EV_ain, ↓EV_ob h0, mdF, mRun, List.mem_cons, List.not_mem_nil, or_false, mtab_eq, Nat.reduceEqDiff, Nat.zero_add, hd1, mset2, b10, b00, not_true_eq_false, not_false_eq_true, true_implies, false_implies, implies_true, and_true, true_and, Nat.le_refl, true_or, or_true, eq_self, List.length_cons, List.length_nil, Nat.reduceAdd, Nat.reduceLT, Nat.reduceLeDiff]
  refine m_in32 (lo := 0) ?_
  simp (disch := omega) only [le_pred]
  by_cases c2 : 0 ≤ k ∧ k < nI (aN (S.1.getD q []) j)
  case neg =>
    rw [if_neg (show ¬ (0 ≤ k ∧ k < nI (ahL ((S.1.getD q []).take j))) from c2)]
    rw [if_neg (fun z => c2 z.2.2)] at hp
    simp (disch := omega) only [↓EVi, ↓EVc, ↓ft_X7_piece, ↓reduceIte, ↓EV_obs, ↓EV_obn, ↓EV_ais, ↓EV_ain, ↓EV_ob h0, mdF, mRun, List.mem_cons, List.not_mem_nil, or_false, mtab_eq, Nat.reduceEqDiff, Nat.zero_add, hd1, mset2, b10, b00, not_true_eq_false, not_false_eq_true, true_implies, false_implies, implies_true, and_true, true_and, Nat.le_refl, true_or, or_true, eq_self, List.length_cons, List.length_nil, Nat.reduceAdd, Nat.reduceLT, Nat.reduceLeDiff]
    exact hp h hR0 mKeep_rfl
  rw [if_pos (show 0 ≤ k ∧ k < nI (ahL ((S.1.getD q []).take j)) from c2)]
  rw [if_pos ⟨c.1, c.2, c2⟩] at hp
  have hA' : aN (S.1.getD q []) j ≤ 10 := hA
  rcases arg_ix k (n := aN (S.1.getD q []) j) (by omega) with z | ⟨t, ht, rfl⟩
  · exact absurd c2 z
  rw [nI_clamp (n := t) (by omega)] at hp
  simp (disch := omega) only [↓EVi, ↓EVc, ↓ft_X7_piece, ↓reduceIte, ↓EV_obs, ↓EV_obn, ↓EV_ais, ↓EV_ain, ↓EV_ob h0, mdF, mRun, List.mem_cons, List.not_mem_nil, or_false, mtab_eq, Nat.reduceEqDiff, Nat.zero_add, hd1, mset2, b10, b00, not_true_eq_false, not_false_eq_true, true_implies, false_implies, implies_true, and_true, true_and, Nat.le_refl, true_or, or_true, eq_self, List.length_cons, List.length_nil, Nat.reduceAdd, Nat.reduceLT, Nat.reduceLeDiff]
  refine m_goAlong (by omega) hw hs (by omega) hM (fun h1 v1 a1 htr hM1 hk1 hv1 ha1 => ?_)
  have h01 := hM1.1
  have a10 : h1 (M + 10) = some (.inl (gC G 0, 310, .inl (a1 10))) := hM1.2 10 (by decide) (by decide)
  have tt := tr_at hw htr (x := j) (y := t) (by omega) ht
  simp (disch := omega) only [↓EVi, ↓EVc, ↓ft_X7_piece, ↓reduceIte, ↓EV_obs, ↓EV_obn, ↓EV_ais, ↓EV_ain, ↓EV_ob h01, ↓EV_ai a10, mdF, mRun, List.mem_cons, List.not_mem_nil, or_false, mtab_eq, Nat.reduceEqDiff, Nat.zero_add, hd1, mset2, b10, b00, not_true_eq_false, not_false_eq_true, true_implies, false_implies, implies_true, and_true, true_and, Nat.le_refl, true_or, or_true, eq_self, List.length_cons, List.length_nil, Nat.reduceAdd, Nat.reduceLT, Nat.reduceLeDiff]
  have hci : (10 * nI j + nI t).toNatClampNeg = 10 * j + t := by simp (disch := omega) only [z_nI, z_lit, z_neg, z_add, z_sub, z_mul, z_lt, z_le, z_eq, z_in, z_cl]; omega
  rw [hci, tt.1]
  exact ⟨by simp (disch := omega) only [z_nI, z_lit, z_neg, z_add, z_sub, z_mul, z_lt, z_le, z_eq, z_in, z_cl]; omega, hp h1 ⟨v1, a1, hM1, MRel_tr hL hv1 ha1⟩ hk1⟩
set_option maxRecDepth 10000 in
theorem c_isCross {f i : Int32} {v : Nat → Int32} {a : Nat → Nat → Int32} (hd : 3 ≤ d) (hI : SInv S) (hM : ModelC h G M v a) (hL : MRel v a S) (hp : post (some (.int (if isX S f i then 1 else 0))) h) : MC G MX7_isCross d 0 0 [.ref M, .int f, .int i] h N post := by
  have h8 := hI.1
  have hd1 : 1 ≤ d := by omega
  have h0 := hM.1
  have a2 : h (M + 2) = some (.inl (gC G 0, 240, .inl (a 2))) := hM.2 2 (by decide) (by decide)
  refine MC.of (L0 := [some (.ref M), some (.int f), some (.int i)]) gd_X7_isCross (Nat.le_of_ble_eq_true rfl) rfl (MW.run gd_X7_isCross [] 30 ?_)
  simp (disch := omega) only [↓EVi, ↓EVc, ↓ft_X7_isCross, ↓reduceIte, ↓EV_obs, ↓EV_obn, ↓EV_ais, ↓EV_ain, ↓EV_ob h0, ↓EV_ai a2, mdF, mRun, List.mem_cons, List.not_mem_nil, or_false, mtab_eq, Nat.reduceEqDiff, Nat.zero_add, hd1, mset2, b10, b00, not_true_eq_false, not_false_eq_true, true_implies, false_implies, implies_true, and_true, true_and, Nat.le_refl, true_or, or_true, eq_self, List.length_cons, List.length_nil, Nat.reduceAdd, Nat.reduceLT, Nat.reduceLeDiff]
  refine c_isEvent (by omega) hI hM hL ?_
  by_cases c : isF S f ∧ (0 ≤ i ∧ i < nI (fr S f).length)
  case neg =>
    rw [if_neg c]
    rw [if_neg (fun z => c z.1)] at hp
    simp (disch := omega) only [↓EVi, ↓EVc, ↓ft_X7_isCross, ↓reduceIte, ↓EV_obs, ↓EV_obn, ↓EV_ais, ↓EV_ain, ↓EV_ob h0, ↓EV_ai a2, mdF, mRun, List.mem_cons, List.not_mem_nil, or_false, mtab_eq, Nat.reduceEqDiff, Nat.zero_add, hd1, mset2, b10, b00, not_true_eq_false, not_false_eq_true, true_implies, false_implies, implies_true, and_true, true_and, Nat.le_refl, true_or, or_true, eq_self, List.length_cons, List.length_nil, Nat.reduceAdd, Nat.reduceLT, Nat.reduceLeDiff]
    exact hp
  rw [if_pos c]
  simp (disch := omega) only [↓EVi, ↓EVc, ↓ft_X7_isCross, ↓reduceIte, ↓EV_obs, ↓EV_obn, ↓EV_ais, ↓EV_ain, ↓EV_ob h0, ↓EV_ai a2, mdF, mRun, List.mem_cons, List.not_mem_nil, or_false, mtab_eq, Nat.reduceEqDiff, Nat.zero_add, hd1, mset2, b10, b00, not_true_eq_false, not_false_eq_true, true_implies, false_implies, implies_true, and_true, true_and, Nat.le_refl, true_or, or_true, eq_self, List.length_cons, List.length_nil, Nat.reduceAdd, Nat.reduceLT, Nat.reduceLeDiff]
  rcases isF_c S f hI with z | ⟨q, hq, rfl, -, hfr⟩
  · exact absurd c.1 z
  have hs := hL.2.1 q hq
  have hw := hI.2.1 q hq
  have b := vld_bd hw.1
  have c' := c
  rw [hfr] at c'
  rcases arg_ix i (n := (S.1.getD q []).length) (by omega) with z | ⟨j, hj, rfl⟩
  · exact absurd c'.2 z
  have sm := vld_sm hw.1 hj
  have hce : (30 * nI q + nI j).toNatClampNeg = 30 * q + j := by simp (disch := omega) only [z_nI, z_lit, z_neg, z_add, z_sub, z_mul, z_lt, z_le, z_eq, z_in, z_cl]; omega
  rw [hce, (hs.2 j hj).1]
  have k1 : (nI (evK (S.1.getD q []) j) = (1 : Int32)) ↔ evK (S.1.getD q []) j = 1 := nI_eq (b := 1) (by omega) (by omega)
  have k2 : evK (fr S (nI q)) (nI j).toNatClampNeg = evK (S.1.getD q []) j := by rw [hfr, nI_clamp (by omega)]
  refine ⟨by simp (disch := omega) only [z_nI, z_lit, z_neg, z_add, z_sub, z_mul, z_lt, z_le, z_eq, z_in, z_cl]; omega, fun z => ?_, fun z => ?_⟩
  · rw [if_neg (fun y => z (k1.mpr (k2 ▸ y.2)))] at hp
    exact hp
  · rw [if_pos ⟨c, by rw [k2]; exact k1.mp (Classical.not_not.mp z)⟩] at hp
    exact hp
theorem isX_c {f i : Int32} (hI : SInv S) (c : isX S f i) : ∃ q j, f = nI q ∧ i = nI j ∧ q < S.1.length ∧ fr S f = S.1.getD q [] ∧ j < (S.1.getD q []).length ∧ evK (S.1.getD q []) j = 1 ∧ i.toNatClampNeg = j := by
  have h8 := hI.1
  obtain ⟨⟨c1, c2⟩, c3⟩ := c
  rcases isF_c S f hI with z | ⟨q, hq, rfl, -, hfr⟩
  · exact absurd c1 z
  have b := vld_bd (hI.2.1 q hq).1
  rw [hfr] at c2 c3
  rcases arg_ix i (n := (S.1.getD q []).length) (by omega) with z | ⟨j, hj, rfl⟩
  · exact absurd c2 z
  rw [nI_clamp (by omega)] at c3
  exact ⟨q, j, rfl, rfl, hq, hfr, hj, c3, nI_clamp (by omega)⟩
set_option maxRecDepth 10000 in
theorem M_sign {f i : Int32} (hd : 4 ≤ d) (hI : SInv S) (hR : MR h G M S) (hp : ∀ h', MR h' G M (aSign f i S).2 → mKeep h h' M (M + 17) → post (some (.int (aSign f i S).1)) h') : MC G MX7_sign d 0 0 [.ref M, .int f, .int i] h N post := by
  have hR0 := hR
  have h8 := hI.1
  have hd1 : 1 ≤ d := by omega
  obtain ⟨v, a, hM, hL⟩ := hR
  have h0 := hM.1
  unfold aSign at hp
  refine MC.of (L0 := [some (.ref M), some (.int f), some (.int i)]) gd_X7_sign (Nat.le_of_ble_eq_true rfl) rfl (MW.run gd_X7_sign [] 30 ?_)
  simp (disch := omega) only [↓EVi, ↓EVc, ↓ft_X7_sign, ↓reduceIte, ↓EV_obs, ↓EV_obn, ↓EV_ais, ↓EV_ain, ↓EV_ob h0, mdF, mRun, List.mem_cons, List.not_mem_nil, or_false, mtab_eq, Nat.reduceEqDiff, Nat.zero_add, hd1, mset2, b10, b00, not_true_eq_false, not_false_eq_true, true_implies, false_implies, implies_true, and_true, true_and, Nat.le_refl, true_or, or_true, eq_self, List.length_cons, List.length_nil, Nat.reduceAdd, Nat.reduceLT, Nat.reduceLeDiff]
  refine c_isCross (by omega) hI hM hL ?_
  by_cases c : isX S f i
  case neg =>
    rw [if_neg c]
    rw [if_neg c] at hp
    simp (disch := omega) only [↓EVi, ↓EVc, ↓ft_X7_sign, ↓reduceIte, ↓EV_obs, ↓EV_obn, ↓EV_ais, ↓EV_ain, ↓EV_ob h0, mdF, mRun, List.mem_cons, List.not_mem_nil, or_false, mtab_eq, Nat.reduceEqDiff, Nat.zero_add, hd1, mset2, b10, b00, not_true_eq_false, not_false_eq_true, true_implies, false_implies, implies_true, and_true, true_and, Nat.le_refl, true_or, or_true, eq_self, List.length_cons, List.length_nil, Nat.reduceAdd, Nat.reduceLT, Nat.reduceLeDiff]
    exact hp h hR0 mKeep_rfl
  rw [if_pos c]
  rw [if_pos c] at hp
  obtain ⟨q, j, rfl, rfl, hq, hfr, hj, hK, hcj⟩ := isX_c hI c
  rw [hfr, hcj] at hp
  have hs := hL.2.1 q hq
  have hw := hI.2.1 q hq
  simp (disch := omega) only [↓EVi, ↓EVc, ↓ft_X7_sign, ↓reduceIte, ↓EV_obs, ↓EV_obn, ↓EV_ais, ↓EV_ain, ↓EV_ob h0, mdF, mRun, List.mem_cons, List.not_mem_nil, or_false, mtab_eq, Nat.reduceEqDiff, Nat.zero_add, hd1, mset2, b10, b00, not_true_eq_false, not_false_eq_true, true_implies, false_implies, implies_true, and_true, true_and, Nat.le_refl, true_or, or_true, eq_self, List.length_cons, List.length_nil, Nat.reduceAdd, Nat.reduceLT, Nat.reduceLeDiff]
  refine m_goAlong (by omega) hw hs (by omega) hM (fun h1 v1 a1 htr hM1 hk1 hv1 ha1 => ?_)
  simp (disch := omega) only [↓EVi, ↓EVc, ↓ft_X7_sign, ↓reduceIte, ↓EV_obs, ↓EV_obn, ↓EV_ais, ↓EV_ain, ↓EV_ob hM1.1, mdF, mRun, List.mem_cons, List.not_mem_nil, or_false, mtab_eq, Nat.reduceEqDiff, Nat.zero_add, hd1, mset2, b10, b00, not_true_eq_false, not_false_eq_true, true_implies, false_implies, implies_true, and_true, true_and, Nat.le_refl, true_or, or_true, eq_self, List.length_cons, List.length_nil, Nat.reduceAdd, Nat.reduceLT, Nat.reduceLeDiff]
  have hs1 : slotR a1 q (S.1.getD q []) := slotR_congr (ha1 1 (by decide)) (ha1 2 (by decide)) (ha1 3 (by decide)) hs
  refine m_isPlus hw hs1 (by omega) htr hM1 hj hK ?_
  have fin := hp h1 ⟨v1, a1, hM1, MRel_tr hL hv1 ha1⟩ hk1
  cases hpl : plus (S.1.getD q []) j with
  | true =>
    rw [hpl] at fin
    simp only [↓reduceIte] at fin ⊢
    simp (disch := omega) only [↓EVi, ↓EVc, ↓ft_X7_sign, ↓reduceIte, ↓EV_obs, ↓EV_obn, ↓EV_ais, ↓EV_ain, mdF, mRun, List.mem_cons, List.not_mem_nil, or_false, mtab_eq, Nat.reduceEqDiff, Nat.zero_add, hd1, mset2, b10, b00, not_true_eq_false, not_false_eq_true, true_implies, false_implies, implies_true, and_true, true_and, Nat.le_refl, true_or, or_true, eq_self, List.length_cons, List.length_nil, Nat.reduceAdd, Nat.reduceLT, Nat.reduceLeDiff]
    exact fin
  | false =>
    rw [hpl] at fin
    simp only [Bool.false_eq_true, ↓reduceIte] at fin ⊢
    simp (disch := omega) only [↓EVi, ↓EVc, ↓ft_X7_sign, ↓reduceIte, ↓EV_obs, ↓EV_obn, ↓EV_ais, ↓EV_ain, mdF, mRun, List.mem_cons, List.not_mem_nil, or_false, mtab_eq, Nat.reduceEqDiff, Nat.zero_add, hd1, mset2, b10, b00, not_true_eq_false, not_false_eq_true, true_implies, false_implies, implies_true, and_true, true_and, Nat.le_refl, true_or, or_true, eq_self, List.length_cons, List.length_nil, Nat.reduceAdd, Nat.reduceLT, Nat.reduceLeDiff]
    exact fin
set_option maxRecDepth 10000 in
theorem M_link {f p q : Int32} (hd : 4 ≤ d) (hI : SInv S) (hR : MR h G M S) (hp : ∀ h', MR h' G M (aLink f p q S).2 → mKeep h h' M (M + 17) → post (some (.int (aLink f p q S).1)) h') : MC G MX7_link d 0 0 [.ref M, .int f, .int p, .int q] h N post := by
  have hR0 := hR
  have h8 := hI.1
  have hd1 : 1 ≤ d := by omega
  obtain ⟨v, a, hM, hL⟩ := hR
  have h0 := hM.1
  unfold aLink at hp
  refine MC.of (L0 := [some (.ref M), some (.int f), some (.int p), some (.int q)]) gd_X7_link (Nat.le_of_ble_eq_true rfl) rfl (MW.run gd_X7_link [] 40 ?_)
  simp (disch := omega) only [↓EVi, ↓EVc, ↓ft_X7_link, ↓reduceIte, ↓EV_obs, ↓EV_obn, ↓EV_ais, ↓EV_ain, ↓EV_ob h0, mdF, mRun, List.mem_cons, List.not_mem_nil, or_false, mtab_eq, Nat.reduceEqDiff, Nat.zero_add, hd1, mset2, b10, b00, not_true_eq_false, not_false_eq_true, true_implies, false_implies, implies_true, and_true, true_and, Nat.le_refl, true_or, or_true, eq_self, List.length_cons, List.length_nil, Nat.reduceAdd, Nat.reduceLT, Nat.reduceLeDiff]
  refine c_is (by omega) hI hM hL ?_
  rcases isF_c S f hI with c | ⟨r, hr, rfl, c, hfr⟩
  · rw [if_neg (fun z => c z.1)] at hp
    rw [if_neg c]
    simp (disch := omega) only [↓EVi, ↓EVc, ↓ft_X7_link, ↓reduceIte, ↓EV_obs, ↓EV_obn, ↓EV_ais, ↓EV_ain, ↓EV_ob h0, mdF, mRun, List.mem_cons, List.not_mem_nil, or_false, mtab_eq, Nat.reduceEqDiff, Nat.zero_add, hd1, mset2, b10, b00, not_true_eq_false, not_false_eq_true, true_implies, false_implies, implies_true, and_true, true_and, Nat.le_refl, true_or, or_true, eq_self, List.length_cons, List.length_nil, Nat.reduceAdd, Nat.reduceLT, Nat.reduceLeDiff]
    exact hp h hR0 mKeep_rfl
  rw [if_pos c]
  rw [hfr] at hp
  have hs := hL.2.1 r hr
  have hw := hI.2.1 r hr
  have hnP := nP_le hw
  simp (disch := omega) only [↓EVi, ↓EVc, ↓ft_X7_link, ↓reduceIte, ↓EV_obs, ↓EV_obn, ↓EV_ais, ↓EV_ain, ↓EV_ob h0, mdF, mRun, List.mem_cons, List.not_mem_nil, or_false, mtab_eq, Nat.reduceEqDiff, Nat.zero_add, hd1, mset2, b10, b00, not_true_eq_false, not_false_eq_true, true_implies, false_implies, implies_true, and_true, true_and, Nat.le_refl, true_or, or_true, eq_self, List.length_cons, List.length_nil, Nat.reduceAdd, Nat.reduceLT, Nat.reduceLeDiff]
  refine m_goAlong (by omega) hw hs (by omega) hM (fun h1 v1 a1 htr hM1 hk1 hv1 ha1 => ?_)
  have h01 := hM1.1
  have hs1 : slotR a1 r (S.1.getD r []) := slotR_congr (ha1 1 (by decide)) (ha1 2 (by decide)) (ha1 3 (by decide)) hs
  have fin := fun (ans : Int32) (z : (if isF S (nI r) ∧ (0 ≤ p ∧ p < nI (nP (S.1.getD r []))) ∧ (0 ≤ q ∧ q < nI (nP (S.1.getD r []))) ∧ ¬ p = q then zI (sgM (S.1.getD r []) p.toNatClampNeg q.toNatClampNeg (S.1.getD r []).length) / 2 else -1000) = ans) => (z ▸ hp h1 ⟨v1, a1, hM1, MRel_tr hL hv1 ha1⟩ hk1 : post (some (.int ans)) h1)
  have e24 : v1 24 = nI (nP (S.1.getD r [])) := htr.2.1
  simp (disch := omega) only [↓EVi, ↓EVc, ↓ft_X7_link, ↓reduceIte, ↓EV_obs, ↓EV_obn, ↓EV_ais, ↓EV_ain, ↓EV_ob h01, mdF, mRun, List.mem_cons, List.not_mem_nil, or_false, mtab_eq, Nat.reduceEqDiff, Nat.zero_add, hd1, mset2, b10, b00, not_true_eq_false, not_false_eq_true, true_implies, false_implies, implies_true, and_true, true_and, Nat.le_refl, true_or, or_true, eq_self, List.length_cons, List.length_nil, Nat.reduceAdd, Nat.reduceLT, Nat.reduceLeDiff]
  rw [e24]
  refine m_in32 (lo := 0) ?_
  simp (disch := omega) only [le_pred]
  by_cases c1 : 0 ≤ p ∧ p < nI (nP (S.1.getD r []))
  case neg =>
    rw [if_neg c1]
    simp (disch := omega) only [↓EVi, ↓EVc, ↓ft_X7_link, ↓reduceIte, ↓EV_obs, ↓EV_obn, ↓EV_ais, ↓EV_ain, ↓EV_ob h01, mdF, mRun, List.mem_cons, List.not_mem_nil, or_false, mtab_eq, Nat.reduceEqDiff, Nat.zero_add, hd1, mset2, b10, b00, not_true_eq_false, not_false_eq_true, true_implies, false_implies, implies_true, and_true, true_and, Nat.le_refl, true_or, or_true, eq_self, List.length_cons, List.length_nil, Nat.reduceAdd, Nat.reduceLT, Nat.reduceLeDiff]
    exact fin _ (if_neg (fun z => c1 z.2.1))
  rw [if_pos c1]
  simp (disch := omega) only [↓EVi, ↓EVc, ↓ft_X7_link, ↓reduceIte, ↓EV_obs, ↓EV_obn, ↓EV_ais, ↓EV_ain, ↓EV_ob h01, mdF, mRun, List.mem_cons, List.not_mem_nil, or_false, mtab_eq, Nat.reduceEqDiff, Nat.zero_add, hd1, mset2, b10, b00, not_true_eq_false, not_false_eq_true, true_implies, false_implies, implies_true, and_true, true_and, Nat.le_refl, true_or, or_true, eq_self, List.length_cons, List.length_nil, Nat.reduceAdd, Nat.reduceLT, Nat.reduceLeDiff]
  rw [e24]
  refine m_in32 (lo := 0) ?_
  simp (disch := omega) only [le_pred]
  by_cases c2 : 0 ≤ q ∧ q < nI (nP (S.1.getD r []))
  case neg =>
    rw [if_neg c2]
    simp (disch := omega) only [↓EVi, ↓EVc, ↓ft_X7_link, ↓reduceIte, ↓EV_obs, ↓EV_obn, ↓EV_ais, ↓EV_ain, ↓EV_ob h01, mdF, mRun, List.mem_cons, List.not_mem_nil, or_false, mtab_eq, Nat.reduceEqDiff, Nat.zero_add, hd1, mset2, b10, b00, not_true_eq_false, not_false_eq_true, true_implies, false_implies, implies_true, and_true, true_and, Nat.le_refl, true_or, or_true, eq_self, List.length_cons, List.length_nil, Nat.reduceAdd, Nat.reduceLT, Nat.reduceLeDiff]
    exact fin _ (if_neg (fun z => c2 z.2.2.1))
  rw [if_pos c2]
  simp (disch := omega) only [↓EVi, ↓EVc, ↓ft_X7_link, ↓reduceIte, ↓EV_obs, ↓EV_obn, ↓EV_ais, ↓EV_ain, ↓EV_ob h01, mdF, mRun, List.mem_cons, List.not_mem_nil, or_false, mtab_eq, Nat.reduceEqDiff, Nat.zero_add, hd1, mset2, b10, b00, not_true_eq_false, not_false_eq_true, true_implies, false_implies, implies_true, and_true, true_and, Nat.le_refl, true_or, or_true, eq_self, List.length_cons, List.length_nil, Nat.reduceAdd, Nat.reduceLT, Nat.reduceLeDiff]
  refine ⟨fun c3 => ?_, fun c3 => fin _ (if_neg (fun z => c3 z.2.2.2))⟩
  rcases arg_ix p (n := nP (S.1.getD r [])) (by omega) with z | ⟨p', hp', rfl⟩
  · exact absurd c1 z
  rcases arg_ix q (n := nP (S.1.getD r [])) (by omega) with z | ⟨q', hq', rfl⟩
  · exact absurd c2 z
  refine m_signed (by omega) hw hs1 (by omega) htr hM1 (by omega) (by omega) ?_
  simp (disch := omega) only [↓EVi, ↓EVc, ↓ft_X7_link, ↓reduceIte, ↓EV_obs, ↓EV_obn, ↓EV_ais, ↓EV_ain, ↓EV_ob h01, mdF, mRun, List.mem_cons, List.not_mem_nil, or_false, mtab_eq, Nat.reduceEqDiff, Nat.zero_add, hd1, mset2, b10, b00, not_true_eq_false, not_false_eq_true, true_implies, false_implies, implies_true, and_true, true_and, Nat.le_refl, true_or, or_true, eq_self, List.length_cons, List.length_nil, Nat.reduceAdd, Nat.reduceLT, Nat.reduceLeDiff]
  refine ⟨by decide, fin _ ?_⟩
  rw [if_pos ⟨c, c1, c2, c3⟩, nI_clamp (by omega), nI_clamp (by omega)]
end GOS
