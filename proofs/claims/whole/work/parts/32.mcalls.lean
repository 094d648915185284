/-! the model: event, join, unlike, sheet, lay -/
theorem mset2 {h : mH} {x : Nat} {e e' : va_E} : mset (mset h x e) x e' = mset h x e' := by
  funext q
  unfold mset
  split <;> rfl
theorem b10 : ((1 : Int32) = 0) = False := by decide
theorem b00 : ((0 : Int32) = 0) = True := eq_self _
theorem m_in32 {G : mG} {d N : Nat} {x lo hi : Int32} {h : mH} {post : Option Value → mH → Prop} (hp : post (some (.int (if lo ≤ x ∧ x ≤ hi then 1 else 0))) h) : MC G MX7_in d 0 0 [.long x.toInt64, .long lo.toInt64, .long hi.toInt64] h N post := by
  refine m_in ?_
  simp only [toL_le]
  exact hp
section MCS
variable {G : mG} {d N M : Nat} {S : AS} {h : mH} {post : Option Value → mH → Prop}
set_option maxRecDepth 10000 in
theorem M_event {f i w : Int32} (hd : 3 ≤ d) (hI : SInv S) (hR : MR h G M S) (hp : ∀ h', MR h' G M (aEvent f i w S).2 → mKeep h h' M (M + 17) → post (some (.int (aEvent f i w S).1)) h') : MC G MX7_event d 0 0 [.ref M, .int f, .int i, .int w] h N post := by
  replace hp := hp h hR mKeep_rfl
  have h8 := hI.1
  have hd1 : 1 ≤ d := by omega
  obtain ⟨v, a, hM, hL⟩ := hR
  have h0 := hM.1
  have a2 : h (M + 2) = some (.inl (gC G 0, 240, .inl (a 2))) := hM.2 2 (by decide) (by decide)
  have a3 : h (M + 3) = some (.inl (gC G 0, 240, .inl (a 3))) := hM.2 3 (by decide) (by decide)
  refine MC.of (L0 := [some (.ref M), some (.int f), some (.int i), some (.int w)]) gd_X7_event (Nat.le_of_ble_eq_true rfl) rfl (MW.run gd_X7_event [] 60 ?_)
  simp (disch := omega) only [↓EVi, ↓EVc, ↓ft_X7_event, ↓reduceIte, ↓EV_obs, ↓EV_obn, ↓EV_ais, ↓EV_ain, ↓EV_ob h0, ↓EV_ai a2, ↓EV_ai a3, mdF, mRun, List.mem_cons, List.not_mem_nil, or_false, mtab_eq, Nat.reduceEqDiff, Nat.zero_add, hd1, mset2, b10, b00, not_true_eq_false, not_false_eq_true, true_implies, false_implies, implies_true, and_true, true_and, Nat.le_refl, true_or, or_true, eq_self, List.length_cons, List.length_nil, Nat.reduceAdd, Nat.reduceLT, Nat.reduceLeDiff]
  refine c_isEvent (by omega) hI hM hL ?_
  unfold aEvent at hp
  by_cases c : isF S f ∧ (0 ≤ i ∧ i < nI (fr S f).length)
  · rw [if_pos c]
    simp (disch := omega) only [↓EVi, ↓EVc, ↓ft_X7_event, ↓reduceIte, ↓EV_obs, ↓EV_obn, ↓EV_ais, ↓EV_ain, ↓EV_ob h0, ↓EV_ai a2, ↓EV_ai a3, mdF, mRun, List.mem_cons, List.not_mem_nil, or_false, mtab_eq, Nat.reduceEqDiff, Nat.zero_add, hd1, mset2, b10, b00, not_true_eq_false, not_false_eq_true, true_implies, false_implies, implies_true, and_true, true_and, Nat.le_refl, true_or, or_true, eq_self, List.length_cons, List.length_nil, Nat.reduceAdd, Nat.reduceLT, Nat.reduceLeDiff]
    refine m_in32 (lo := 0) (hi := 2) ?_
    rcases isF_c S f hI with z | ⟨q, hq, rfl, -, hfr⟩
    · exact absurd c.1 z
    have hs := hL.2.1 q hq
    have hw := hI.2.1 q hq
    have h30 := (vld_bd hw.1).1
    rcases arg_ix i (n := (fr S (nI q)).length) (by rw [hfr]; omega) with z | ⟨j, hj, rfl⟩
    · exact absurd c.2 z
    rw [hfr] at hp hj
    by_cases c2 : 0 ≤ w ∧ w ≤ 2
    · rw [if_pos c2]
      rw [hfr] at c
      rw [if_pos ⟨c.1, c.2, c2⟩, nI_clamp (n := j) (by omega)] at hp
      simp (disch := omega) only [↓EVi, ↓EVc, ↓ft_X7_event, ↓reduceIte, ↓EV_obs, ↓EV_obn, ↓EV_ais, ↓EV_ain, ↓EV_ob h0, ↓EV_ai a2, ↓EV_ai a3, mdF, mRun, List.mem_cons, List.not_mem_nil, or_false, mtab_eq, Nat.reduceEqDiff, Nat.zero_add, hd1, mset2, b10, b00, not_true_eq_false, not_false_eq_true, true_implies, false_implies, implies_true, and_true, true_and, Nat.le_refl, true_or, or_true, eq_self, List.length_cons, List.length_nil, Nat.reduceAdd, Nat.reduceLT, Nat.reduceLeDiff]
      have vi : vp_in (30 * nI q + nI j) 240 := by simp (disch := omega) only [z_nI, z_lit, z_neg, z_add, z_sub, z_mul, z_lt, z_le, z_eq, z_in, z_cl]; omega
      have hcj : (30 * nI q + nI j).toNatClampNeg = 30 * q + j := by simp (disch := omega) only [z_nI, z_lit, z_neg, z_add, z_sub, z_mul, z_lt, z_le, z_eq, z_in, z_cl]; omega
      rw [hcj, (hs.2 j hj).1, (hs.2 j hj).2]
      refine ⟨fun c0 => ⟨fun c1 => ?_, fun c1 => ⟨vi, ?_⟩⟩, fun c0 => ⟨vi, ?_⟩⟩
      · rw [if_neg c0, if_neg c1] at hp
        refine m_ahead (by omega) hM hs hw.1 (by omega) (by omega) ?_
        simp (disch := omega) only [↓EVi, ↓EVc, ↓ft_X7_event, ↓reduceIte, ↓EV_obs, ↓EV_obn, ↓EV_ais, ↓EV_ain, ↓EV_ob h0, ↓EV_ai a2, ↓EV_ai a3, mdF, mRun, List.mem_cons, List.not_mem_nil, or_false, mtab_eq, Nat.reduceEqDiff, Nat.zero_add, hd1, mset2, b10, b00, not_true_eq_false, not_false_eq_true, true_implies, false_implies, implies_true, and_true, true_and, Nat.le_refl, true_or, or_true, eq_self, List.length_cons, List.length_nil, Nat.reduceAdd, Nat.reduceLT, Nat.reduceLeDiff]
        exact hp
      · rw [if_neg c0, if_pos (Classical.not_not.mp c1)] at hp
        exact hp
      · rw [if_pos (Classical.not_not.mp c0)] at hp
        exact hp
    · rw [if_neg c2]
      rw [if_neg (fun z => c2 z.2.2)] at hp
      simp (disch := omega) only [↓EVi, ↓EVc, ↓ft_X7_event, ↓reduceIte, ↓EV_obs, ↓EV_obn, ↓EV_ais, ↓EV_ain, ↓EV_ob h0, ↓EV_ai a2, ↓EV_ai a3, mdF, mRun, List.mem_cons, List.not_mem_nil, or_false, mtab_eq, Nat.reduceEqDiff, Nat.zero_add, hd1, mset2, b10, b00, not_true_eq_false, not_false_eq_true, true_implies, false_implies, implies_true, and_true, true_and, Nat.le_refl, true_or, or_true, eq_self, List.length_cons, List.length_nil, Nat.reduceAdd, Nat.reduceLT, Nat.reduceLeDiff]
      exact hp
  · rw [if_neg c]
    rw [if_neg (fun z => c ⟨z.1, z.2.1⟩)] at hp
    simp (disch := omega) only [↓EVi, ↓EVc, ↓ft_X7_event, ↓reduceIte, ↓EV_obs, ↓EV_obn, ↓EV_ais, ↓EV_ain, ↓EV_ob h0, ↓EV_ai a2, ↓EV_ai a3, mdF, mRun, List.mem_cons, List.not_mem_nil, or_false, mtab_eq, Nat.reduceEqDiff, Nat.zero_add, hd1, mset2, b10, b00, not_true_eq_false, not_false_eq_true, true_implies, false_implies, implies_true, and_true, true_and, Nat.le_refl, true_or, or_true, eq_self, List.length_cons, List.length_nil, Nat.reduceAdd, Nat.reduceLT, Nat.reduceLeDiff]
    exact hp
set_option maxRecDepth 10000 in
theorem M_join {f g : Int32} (hd : 3 ≤ d) (hI : SInv S) (hR : MR h G M S) (hp : ∀ h', MR h' G M (aJoin f g S).2 → mKeep h h' M (M + 17) → post (some (.int (aJoin f g S).1)) h') : MC G MX7_join d 0 0 [.ref M, .int f, .int g] h N post := by
  have hR0 := hR
  have h8 := hI.1
  have hd1 : 1 ≤ d := by omega
  obtain ⟨v, a, hM, hL⟩ := hR
  have h0 := hM.1
  have a1 : h (M + 1) = some (.inl (gC G 0, 8, .inl (a 1))) := hM.2 1 (by decide) (by decide)
  refine MC.of (L0 := [some (.ref M), some (.int f), some (.int g)]) gd_X7_join (Nat.le_of_ble_eq_true rfl) rfl (MW.run gd_X7_join [] 70 ?_)
  simp (disch := omega) only [↓EVi, ↓EVc, ↓ft_X7_join, ↓reduceIte, ↓EV_obs, ↓EV_obn, ↓EV_ais, ↓EV_ain, ↓EV_ob h0, ↓EV_ai a1, mdF, mRun, List.mem_cons, List.not_mem_nil, or_false, mtab_eq, Nat.reduceEqDiff, Nat.zero_add, hd1, mset2, b10, b00, not_true_eq_false, not_false_eq_true, true_implies, false_implies, implies_true, and_true, true_and, Nat.le_refl, true_or, or_true, eq_self, List.length_cons, List.length_nil, Nat.reduceAdd, Nat.reduceLT, Nat.reduceLeDiff]
  refine c_is (by omega) hI hM hL ?_
  unfold aJoin at hp
  rcases isF_c S f hI with c | ⟨q, hq, rfl, c, hfr⟩
  · rw [if_neg (fun z => c z.1)] at hp
    rw [if_neg c]
    simp (disch := omega) only [↓EVi, ↓EVc, ↓ft_X7_join, ↓reduceIte, ↓EV_obs, ↓EV_obn, ↓EV_ais, ↓EV_ain, ↓EV_ob h0, ↓EV_ai a1, mdF, mRun, List.mem_cons, List.not_mem_nil, or_false, mtab_eq, Nat.reduceEqDiff, Nat.zero_add, hd1, mset2, b10, b00, not_true_eq_false, not_false_eq_true, true_implies, false_implies, implies_true, and_true, true_and, Nat.le_refl, true_or, or_true, eq_self, List.length_cons, List.length_nil, Nat.reduceAdd, Nat.reduceLT, Nat.reduceLeDiff]
    exact hp h hR0 mKeep_rfl
  rw [if_pos c]
  simp (disch := omega) only [↓EVi, ↓EVc, ↓ft_X7_join, ↓reduceIte, ↓EV_obs, ↓EV_obn, ↓EV_ais, ↓EV_ain, ↓EV_ob h0, ↓EV_ai a1, mdF, mRun, List.mem_cons, List.not_mem_nil, or_false, mtab_eq, Nat.reduceEqDiff, Nat.zero_add, hd1, mset2, b10, b00, not_true_eq_false, not_false_eq_true, true_implies, false_implies, implies_true, and_true, true_and, Nat.le_refl, true_or, or_true, eq_self, List.length_cons, List.length_nil, Nat.reduceAdd, Nat.reduceLT, Nat.reduceLeDiff]
  refine c_is (by omega) hI hM hL ?_
  rcases isF_c S g hI with c2 | ⟨r, hr, rfl, c2, hgr⟩
  · rw [if_neg (fun z => c2 z.2)] at hp
    rw [if_neg c2]
    simp (disch := omega) only [↓EVi, ↓EVc, ↓ft_X7_join, ↓reduceIte, ↓EV_obs, ↓EV_obn, ↓EV_ais, ↓EV_ain, ↓EV_ob h0, ↓EV_ai a1, mdF, mRun, List.mem_cons, List.not_mem_nil, or_false, mtab_eq, Nat.reduceEqDiff, Nat.zero_add, hd1, mset2, b10, b00, not_true_eq_false, not_false_eq_true, true_implies, false_implies, implies_true, and_true, true_and, Nat.le_refl, true_or, or_true, eq_self, List.length_cons, List.length_nil, Nat.reduceAdd, Nat.reduceLT, Nat.reduceLeDiff]
    exact hp h hR0 mKeep_rfl
  rw [if_pos c2]
  rw [if_pos ⟨c, c2⟩, hfr, hgr] at hp
  have hs := hL.2.1 q hq
  have hw := hI.2.1 q hq
  have hs2 := hL.2.1 r hr
  have hw2 := hI.2.1 r hr
  have b1 := vld_bd hw.1
  have b2 := vld_bd hw2.1
  simp (disch := omega) only [↓EVi, ↓EVc, ↓ft_X7_join, ↓reduceIte, ↓EV_obs, ↓EV_obn, ↓EV_ais, ↓EV_ain, ↓EV_ob h0, ↓EV_ai a1, mdF, mRun, List.mem_cons, List.not_mem_nil, or_false, mtab_eq, Nat.reduceEqDiff, Nat.zero_add, hd1, mset2, b10, b00, not_true_eq_false, not_false_eq_true, true_implies, false_implies, implies_true, and_true, true_and, Nat.le_refl, true_or, or_true, eq_self, List.length_cons, List.length_nil, Nat.reduceAdd, Nat.reduceLT, Nat.reduceLeDiff]
  have e8 : (v 0 = 8) ↔ S.1.length = 8 := by rw [hL.1]; exact nI_eq (b := 8) (by omega) (by omega)
  have e30 : (30 < a 1 (nI q).toNatClampNeg + a 1 (nI r).toNatClampNeg - 2) ↔ 32 < (S.1.getD q []).length + (S.1.getD r []).length := by
    rw [nI_clamp (n := q) (by omega), nI_clamp (n := r) (by omega), hs.1, hs2.1]
    simp (disch := omega) only [z_nI, z_lit, z_neg, z_add, z_sub, z_mul, z_lt, z_le, z_eq, z_in, z_cl]
    omega
  have vq : vp_in (nI q) 8 := vp_in_nI (by omega) (by decide)
  have vr : vp_in (nI r) 8 := vp_in_nI (by omega) (by decide)
  have no : (S.1.length = 8 ∨ 32 < (S.1.getD q []).length + (S.1.getD r []).length ∨ 12 < crs (S.1.getD q []) + crs (S.1.getD r [])) → post (some (.int (-3))) h := by
    intro z
    rw [if_pos z] at hp
    exact hp h hR0 mKeep_rfl
  refine ⟨fun c8 => no (Or.inl (e8.mp c8)), fun c8 => ⟨vq, vr, fun c30 => no (Or.inr (Or.inl (e30.mp c30))), fun c30 => m_crossesOf hM hs hw.1 (by omega) ?_⟩⟩
  simp (disch := omega) only [↓EVi, ↓EVc, ↓ft_X7_join, ↓reduceIte, ↓EV_obs, ↓EV_obn, ↓EV_ais, ↓EV_ain, ↓EV_ob h0, ↓EV_ai a1, mdF, mRun, List.mem_cons, List.not_mem_nil, or_false, mtab_eq, Nat.reduceEqDiff, Nat.zero_add, hd1, mset2, b10, b00, not_true_eq_false, not_false_eq_true, true_implies, false_implies, implies_true, and_true, true_and, Nat.le_refl, true_or, or_true, eq_self, List.length_cons, List.length_nil, Nat.reduceAdd, Nat.reduceLT, Nat.reduceLeDiff]
  refine m_crossesOf hM hs2 hw2.1 (by omega) ?_
  simp (disch := omega) only [↓EVi, ↓EVc, ↓ft_X7_join, ↓reduceIte, ↓EV_obs, ↓EV_obn, ↓EV_ais, ↓EV_ain, ↓EV_ob h0, ↓EV_ai a1, mdF, mRun, List.mem_cons, List.not_mem_nil, or_false, mtab_eq, Nat.reduceEqDiff, Nat.zero_add, hd1, mset2, b10, b00, not_true_eq_false, not_false_eq_true, true_implies, false_implies, implies_true, and_true, true_and, Nat.le_refl, true_or, or_true, eq_self, List.length_cons, List.length_nil, Nat.reduceAdd, Nat.reduceLT, Nat.reduceLeDiff]
  have e12 : (nI (crs (S.1.getD q [])) + nI (crs (S.1.getD r [])) ≤ 12) ↔ crs (S.1.getD q []) + crs (S.1.getD r []) ≤ 12 := by
    simp (disch := omega) only [z_nI, z_lit, z_neg, z_add, z_sub, z_mul, z_lt, z_le, z_eq, z_in, z_cl]
    omega
  refine ⟨fun c12 => ⟨vq, ?_⟩, fun c12 => no (Or.inr (Or.inr (Nat.not_le.mp (fun z => c12 (e12.mpr z)))))⟩
  have c12' := e12.mp c12
  have c8' : ¬ S.1.length = 8 := fun z => c8 (e8.mpr z)
  have c30' : ¬ 32 < (S.1.getD q []).length + (S.1.getD r []).length := fun z => c30 (e30.mpr z)
  rw [if_neg (by omega)] at hp
  rw [nI_clamp (n := q) (by omega), hs.1, show nI (S.1.getD q []).length - 1 = nI ((S.1.getD q []).length - 1) from pk_sub (b := 1) (List.length_pos_iff.mpr hw.2.1), show (0 : Int32) = nI 0 from rfl]
  have hM1 := ModelC_v (v' := upd v 4 0) hM
  have l1 := List.length_pos_iff.mpr hw.2.1
  have l2 := List.length_pos_iff.mpr hw2.2.1
  refine c_putOf (es := []) (fs := S.1.getD q []) (by omega) hM1 ⟨pk_us, fun i hi => absurd hi (Nat.not_lt_zero i)⟩ hs (by omega) (Nat.zero_le _) (by omega) b1.1 (by rw [List.length_nil]; omega) (fun h' v' a' hM' hN hv ha hk => ?_)
  have h0' := hM'.1
  have a1' : h' (M + 1) = some (.inl (gC G 0, 8, .inl (a' 1))) := hM'.2 1 (by decide) (by decide)
  simp (disch := omega) only [↓EVi, ↓EVc, ↓ft_X7_join, ↓reduceIte, ↓EV_obs, ↓EV_obn, ↓EV_ais, ↓EV_ain, ↓EV_ob h0', ↓EV_ai a1', mdF, mRun, List.mem_cons, List.not_mem_nil, or_false, mtab_eq, Nat.reduceEqDiff, Nat.zero_add, hd1, mset2, b10, b00, not_true_eq_false, not_false_eq_true, true_implies, false_implies, implies_true, and_true, true_and, Nat.le_refl, true_or, or_true, eq_self, List.length_cons, List.length_nil, Nat.reduceAdd, Nat.reduceLT, Nat.reduceLeDiff]
  rw [ha 1 (by decide) (by decide), nI_clamp (n := r) (by omega), hs2.1, show (1 : Int32) = nI 1 from rfl]
  refine ⟨vr, ?_⟩
  rw [Nat.sub_zero, List.drop_zero, List.nil_append] at hN
  have hlen : ((S.1.getD q []).take ((S.1.getD q []).length - 1)).length = (S.1.getD q []).length - 1 := by rw [List.length_take]; omega
  refine c_putOf (fs := S.1.getD r []) (by omega) hM' hN (slotR_congr (ha 1 (by decide) (by decide)) (ha 2 (by decide) (by decide)) (ha 3 (by decide) (by decide)) hs2) (by omega) (by omega) (Nat.le_refl _) b2.1 (by rw [hlen]; omega) (fun h2 v2 a2 hM2 hN2 hv2 ha2 hk2 => ?_)
  simp (disch := omega) only [↓EVi, ↓EVc, ↓ft_X7_join, ↓reduceIte, ↓EV_obs, ↓EV_obn, ↓EV_ais, ↓EV_ain, ↓EV_ob hM2.1, mdF, mRun, List.mem_cons, List.not_mem_nil, or_false, mtab_eq, Nat.reduceEqDiff, Nat.zero_add, hd1, mset2, b10, b00, not_true_eq_false, not_false_eq_true, true_implies, false_implies, implies_true, and_true, true_and, Nat.le_refl, true_or, or_true, eq_self, List.length_cons, List.length_nil, Nat.reduceAdd, Nat.reduceLT, Nat.reduceLeDiff]
  have e3 : ((S.1.getD r []).drop 1).take ((S.1.getD r []).length - 1) = (S.1.getD r []).drop 1 := List.take_of_length_le (by rw [List.length_drop]; omega)
  rw [e3] at hN2
  refine M_added (by omega) hI hM2 (MRel_congr hL (fun k hk => by rw [hv2 k (by omega), hv k (by omega), pk_un (by omega)]) (fun k hk => by rw [ha2 k (by omega) (by omega), ha k (by omega) (by omega)])) hN2 (by rw [List.length_append, hlen, List.length_drop]; omega) (by omega) (fun h3 hR3 hk3 => ?_)
  simp (disch := omega) only [↓EVi, ↓EVc, ↓ft_X7_join, ↓reduceIte, ↓EV_obs, ↓EV_obn, ↓EV_ais, ↓EV_ain, mdF, mRun, List.mem_cons, List.not_mem_nil, or_false, mtab_eq, Nat.reduceEqDiff, Nat.zero_add, hd1, mset2, b10, b00, not_true_eq_false, not_false_eq_true, true_implies, false_implies, implies_true, and_true, true_and, Nat.le_refl, true_or, or_true, eq_self, List.length_cons, List.length_nil, Nat.reduceAdd, Nat.reduceLT, Nat.reduceLeDiff]
  exact hp h3 hR3 (mKeep_trans (mKeep_trans (mKeep_trans (fun z hz => mset_ne (by omega)) hk) hk2) hk3)
def kA (es : List Ev) (i : Nat) : Int32 := if i < es.length then nI (evK es i) else -4
def pA (es : List Ev) (i : Nat) : Int32 := if i < es.length then nI (evP es i) else -4
theorem c_kindAt {v : Nat → Int32} {a : Nat → Nat → Int32} {f i : Nat} {es : List Ev} (hM : ModelC h G M v a) (hs : slotR a f es) (hf : f < 8) (h30 : es.length ≤ 30) (hi : i < 100) (hp : post (some (.int (kA es i))) h) : MC G MX7_kindAt d 0 0 [.ref M, .int (nI f), .int (nI i)] h N post := by
  refine m_kindAt hM (vp_in_nI hf (by decide)) (fun c => ?_) ?_
  · rw [nI_clamp (by omega), hs.1, nI_leI (by omega) (by omega)] at c
    simp (disch := omega) only [z_nI, z_lit, z_neg, z_add, z_sub, z_mul, z_lt, z_le, z_eq, z_in, z_cl]
    omega
  · simp (disch := omega) only [nI_clamp, hs.1, nI_leI]
    have hcj : (30 * nI f + nI i).toNatClampNeg = 30 * f + i := by simp (disch := omega) only [z_nI, z_lit, z_neg, z_add, z_sub, z_mul, z_lt, z_le, z_eq, z_in, z_cl]; omega
    rw [hcj]
    unfold kA at hp
    by_cases c : i < es.length
    · rw [if_pos c] at hp
      rw [if_neg (by omega), (hs.2 i c).1]
      exact hp
    · rw [if_neg c] at hp
      rw [if_pos (by omega)]
      exact hp
theorem c_numberAt {v : Nat → Int32} {a : Nat → Nat → Int32} {f i : Nat} {es : List Ev} (hM : ModelC h G M v a) (hs : slotR a f es) (hf : f < 8) (h30 : es.length ≤ 30) (hi : i < 100) (hp : post (some (.int (pA es i))) h) : MC G MX7_numberAt d 0 0 [.ref M, .int (nI f), .int (nI i)] h N post := by
  refine m_numberAt hM (vp_in_nI hf (by decide)) (fun c => ?_) ?_
  · rw [nI_clamp (by omega), hs.1, nI_leI (by omega) (by omega)] at c
    simp (disch := omega) only [z_nI, z_lit, z_neg, z_add, z_sub, z_mul, z_lt, z_le, z_eq, z_in, z_cl]
    omega
  · simp (disch := omega) only [nI_clamp, hs.1, nI_leI]
    have hcj : (30 * nI f + nI i).toNatClampNeg = 30 * f + i := by simp (disch := omega) only [z_nI, z_lit, z_neg, z_add, z_sub, z_mul, z_lt, z_le, z_eq, z_in, z_cl]; omega
    rw [hcj]
    unfold pA at hp
    by_cases c : i < es.length
    · rw [if_pos c] at hp
      rw [if_neg (by omega), (hs.2 i c).2]
      exact hp
    · rw [if_neg c] at hp
      rw [if_pos (by omega)]
      exact hp
def unl (es gs : List Ev) : Int32 := ((List.range (max es.length gs.length)).find? (fun i => decide (es[i]? ≠ gs[i]?))).elim (-4) nI
theorem unl_at {es gs : List Ev} {i : Nat} (hi : i < max es.length gs.length) (hne : es[i]? ≠ gs[i]?) (hb : ∀ j, j < i → es[j]? = gs[j]?) : unl es gs = nI i := by
  unfold unl
  have : (List.range (max es.length gs.length)).find? (fun i => decide (es[i]? ≠ gs[i]?)) = some i := by
    rw [List.find?_range_eq_some]
    exact ⟨by simpa using hne, List.mem_range.mpr hi, fun j hj => by simpa using hb j hj⟩
  rw [this]
  rfl
theorem unl_no {es gs : List Ev} (hb : ∀ j, j < max es.length gs.length → es[j]? = gs[j]?) : unl es gs = -4 := by
  unfold unl
  have : (List.range (max es.length gs.length)).find? (fun i => decide (es[i]? ≠ gs[i]?)) = none := by
    rw [List.find?_eq_none]
    intro j hj
    simpa using hb j (List.mem_range.mp hj)
  rw [this]
  rfl
theorem kp_iff {es gs : List Ev} {i : Nat} (h1 : vld es) (h2 : vld gs) : (kA es i = kA gs i ∧ pA es i = pA gs i) ↔ es[i]? = gs[i]? := by
  have hn : ∀ n : Nat, n ≤ 10 → ¬ nI n = -4 := by
    intro n hn
    simp (disch := omega) only [z_nI, z_lit, z_neg, z_add, z_sub, z_mul, z_lt, z_le, z_eq, z_in, z_cl]
    omega
  unfold kA pA
  by_cases c1 : i < es.length <;> by_cases c2 : i < gs.length
  · have s1 := vld_sm h1 c1
    have s2 := vld_sm h2 c2
    rw [if_pos c1, if_pos c2, if_pos c1, if_pos c2, nI_eq (by omega) (by omega), nI_eq (by omega) (by omega)]
    unfold evK evP
    rw [List.getD_eq_getElem?_getD, List.getD_eq_getElem?_getD, List.getElem?_eq_getElem c1, List.getElem?_eq_getElem c2]
    simp only [Option.getD_some, Option.some.injEq]
    rw [Prod.ext_iff]
  · have s1 := vld_sm h1 c1
    rw [if_pos c1, if_neg c2, List.getElem?_eq_getElem c1, List.getElem?_eq_none (Nat.not_lt.mp c2)]
    exact ⟨fun z => absurd z.1 (hn _ (by omega)), fun z => by cases z⟩
  · have s2 := vld_sm h2 c2
    rw [if_neg c1, if_pos c2, List.getElem?_eq_getElem c2, List.getElem?_eq_none (Nat.not_lt.mp c1)]
    exact ⟨fun z => absurd z.1.symm (hn _ (by omega)), fun z => by cases z⟩
  · rw [if_neg c1, if_neg c2, if_neg c1, if_neg c2, List.getElem?_eq_none (Nat.not_lt.mp c1), List.getElem?_eq_none (Nat.not_lt.mp c2)]
    exact ⟨fun _ => rfl, fun _ => ⟨rfl, rfl⟩⟩
def aUnlike (f g : Int32) (S : AS) : Int32 × AS := (if isF S f ∧ isF S g then unl (fr S f) (fr S g) else -1, S)
set_option maxRecDepth 10000 in
theorem M_unlike {f g : Int32} (hd : 3 ≤ d) (hI : SInv S) (hR : MR h G M S) (hp : ∀ h', MR h' G M (aUnlike f g S).2 → mKeep h h' M (M + 17) → post (some (.int (aUnlike f g S).1)) h') : MC G MX7_unlike d 0 0 [.ref M, .int f, .int g] h N post := by
  replace hp := hp h hR mKeep_rfl
  have h8 := hI.1
  have hd1 : 1 ≤ d := by omega
  obtain ⟨v, a, hM, hL⟩ := hR
  have h0 := hM.1
  have a1 : h (M + 1) = some (.inl (gC G 0, 8, .inl (a 1))) := hM.2 1 (by decide) (by decide)
  refine MC.of (L0 := [some (.ref M), some (.int f), some (.int g), none, none]) gd_X7_unlike (Nat.le_of_ble_eq_true rfl) rfl (MW.run gd_X7_unlike [52] 70 ?_)
  simp (disch := omega) only [↓EVi, ↓EVc, ↓ft_X7_unlike, ↓reduceIte, ↓EV_obs, ↓EV_obn, ↓EV_ais, ↓EV_ain, ↓EV_ob h0, ↓EV_ai a1, mdF, mRun, List.mem_cons, List.not_mem_nil, or_false, mtab_eq, Nat.reduceEqDiff, Nat.zero_add, hd1, mset2, b10, b00, not_true_eq_false, not_false_eq_true, true_implies, false_implies, implies_true, and_true, true_and, Nat.le_refl, true_or, or_true, eq_self, List.length_cons, List.length_nil, Nat.reduceAdd, Nat.reduceLT, Nat.reduceLeDiff]
  refine c_is (by omega) hI hM hL ?_
  unfold aUnlike at hp
  rcases isF_c S f hI with c | ⟨q, hq, rfl, c, hfr⟩
  · rw [if_neg (fun z => c z.1)] at hp
    rw [if_neg c]
    simp (disch := omega) only [↓EVi, ↓EVc, ↓ft_X7_unlike, ↓reduceIte, ↓EV_obs, ↓EV_obn, ↓EV_ais, ↓EV_ain, ↓EV_ob h0, ↓EV_ai a1, mdF, mRun, List.mem_cons, List.not_mem_nil, or_false, mtab_eq, Nat.reduceEqDiff, Nat.zero_add, hd1, mset2, b10, b00, not_true_eq_false, not_false_eq_true, true_implies, false_implies, implies_true, and_true, true_and, Nat.le_refl, true_or, or_true, eq_self, List.length_cons, List.length_nil, Nat.reduceAdd, Nat.reduceLT, Nat.reduceLeDiff]
    exact hp
  rw [if_pos c]
  simp (disch := omega) only [↓EVi, ↓EVc, ↓ft_X7_unlike, ↓reduceIte, ↓EV_obs, ↓EV_obn, ↓EV_ais, ↓EV_ain, ↓EV_ob h0, ↓EV_ai a1, mdF, mRun, List.mem_cons, List.not_mem_nil, or_false, mtab_eq, Nat.reduceEqDiff, Nat.zero_add, hd1, mset2, b10, b00, not_true_eq_false, not_false_eq_true, true_implies, false_implies, implies_true, and_true, true_and, Nat.le_refl, true_or, or_true, eq_self, List.length_cons, List.length_nil, Nat.reduceAdd, Nat.reduceLT, Nat.reduceLeDiff]
  refine c_is (by omega) hI hM hL ?_
  rcases isF_c S g hI with c2 | ⟨r, hr, rfl, c2, hgr⟩
  · rw [if_neg (fun z => c2 z.2)] at hp
    rw [if_neg c2]
    simp (disch := omega) only [↓EVi, ↓EVc, ↓ft_X7_unlike, ↓reduceIte, ↓EV_obs, ↓EV_obn, ↓EV_ais, ↓EV_ain, ↓EV_ob h0, ↓EV_ai a1, mdF, mRun, List.mem_cons, List.not_mem_nil, or_false, mtab_eq, Nat.reduceEqDiff, Nat.zero_add, hd1, mset2, b10, b00, not_true_eq_false, not_false_eq_true, true_implies, false_implies, implies_true, and_true, true_and, Nat.le_refl, true_or, or_true, eq_self, List.length_cons, List.length_nil, Nat.reduceAdd, Nat.reduceLT, Nat.reduceLeDiff]
    exact hp
  rw [if_pos c2]
  rw [if_pos ⟨c, c2⟩, hfr, hgr] at hp
  have hs := hL.2.1 q hq
  have hw := hI.2.1 q hq
  have hs2 := hL.2.1 r hr
  have hw2 := hI.2.1 r hr
  have b1 := vld_bd hw.1
  have b2 := vld_bd hw2.1
  simp (disch := omega) only [↓EVi, ↓EVc, ↓ft_X7_unlike, ↓reduceIte, ↓EV_obs, ↓EV_obn, ↓EV_ais, ↓EV_ain, ↓EV_ob h0, ↓EV_ai a1, mdF, mRun, List.mem_cons, List.not_mem_nil, or_false, mtab_eq, Nat.reduceEqDiff, Nat.zero_add, hd1, mset2, b10, b00, not_true_eq_false, not_false_eq_true, true_implies, false_implies, implies_true, and_true, true_and, Nat.le_refl, true_or, or_true, eq_self, List.length_cons, List.length_nil, Nat.reduceAdd, Nat.reduceLT, Nat.reduceLeDiff]
  rw [nI_clamp (n := q) (by omega), nI_clamp (n := r) (by omega), hs.1, hs2.1]
  have vq : vp_in (nI q) 8 := vp_in_nI (by omega) (by decide)
  have vr : vp_in (nI r) 8 := vp_in_nI (by omega) (by decide)
  generalize S.1.getD q [] = es at *
  generalize S.1.getD r [] = gs at *
  have loop : ∀ m : Nat, m = max es.length gs.length → MW G MX7_unlike (mz G d 0 0 post) 52 [some (.ref M), some (.int (nI q)), some (.int (nI r)), some (.int (nI m)), some (.int 0)] [] h (N, 0, 0) := by
    intro m hm
    refine MW.upto m (fun k L h' => L = [some (.ref M), some (.int (nI q)), some (.int (nI r)), some (.int (nI m)), some (.int (nI k))] ∧ h' = h ∧ ∀ j, j < k → es[j]? = gs[j]?) ?_ ?_ 0 _ _ (Nat.zero_le _) ⟨rfl, rfl, fun j hj => absurd hj (Nat.not_lt_zero j)⟩
    · rintro k L h' hk ⟨rfl, rfl, hj⟩ ih
      refine MW.run1 gd_X7_unlike [52] 60 ?_
      simp (disch := omega) only [↓EVi, ↓EVc, ↓ft_X7_unlike, ↓reduceIte, ↓EV_obs, ↓EV_obn, ↓EV_ais, ↓EV_ain, ↓EV_ob h0, ↓EV_ai a1, mdF, mRun, List.mem_cons, List.not_mem_nil, or_false, mtab_eq, Nat.reduceEqDiff, Nat.zero_add, hd1, mset2, b10, b00, not_true_eq_false, not_false_eq_true, true_implies, false_implies, implies_true, and_true, true_and, Nat.le_refl, true_or, or_true, eq_self, List.length_cons, List.length_nil, Nat.reduceAdd, Nat.reduceLT, Nat.reduceLeDiff]
      refine ⟨fun c => absurd ((nI_leI (by omega) (by omega)).mp c) (by omega), fun _ => c_kindAt hM hs (by omega) b1.1 (by omega) ?_⟩
      simp (disch := omega) only [↓EVi, ↓EVc, ↓ft_X7_unlike, ↓reduceIte, ↓EV_obs, ↓EV_obn, ↓EV_ais, ↓EV_ain, ↓EV_ob h0, ↓EV_ai a1, mdF, mRun, List.mem_cons, List.not_mem_nil, or_false, mtab_eq, Nat.reduceEqDiff, Nat.zero_add, hd1, mset2, b10, b00, not_true_eq_false, not_false_eq_true, true_implies, false_implies, implies_true, and_true, true_and, Nat.le_refl, true_or, or_true, eq_self, List.length_cons, List.length_nil, Nat.reduceAdd, Nat.reduceLT, Nat.reduceLeDiff]
      refine c_kindAt hM hs2 (by omega) b2.1 (by omega) ?_
      simp (disch := omega) only [↓EVi, ↓EVc, ↓ft_X7_unlike, ↓reduceIte, ↓EV_obs, ↓EV_obn, ↓EV_ais, ↓EV_ain, ↓EV_ob h0, ↓EV_ai a1, mdF, mRun, List.mem_cons, List.not_mem_nil, or_false, mtab_eq, Nat.reduceEqDiff, Nat.zero_add, hd1, mset2, b10, b00, not_true_eq_false, not_false_eq_true, true_implies, false_implies, implies_true, and_true, true_and, Nat.le_refl, true_or, or_true, eq_self, List.length_cons, List.length_nil, Nat.reduceAdd, Nat.reduceLT, Nat.reduceLeDiff]
      refine ⟨fun z => ?_, fun z => c_numberAt hM hs (by omega) b1.1 (by omega) ?_⟩
      · rw [unl_at (hm ▸ hk) (fun e => z ((kp_iff hw.1 hw2.1).mpr e).1) hj] at hp
        exact hp
      simp (disch := omega) only [↓EVi, ↓EVc, ↓ft_X7_unlike, ↓reduceIte, ↓EV_obs, ↓EV_obn, ↓EV_ais, ↓EV_ain, ↓EV_ob h0, ↓EV_ai a1, mdF, mRun, List.mem_cons, List.not_mem_nil, or_false, mtab_eq, Nat.reduceEqDiff, Nat.zero_add, hd1, mset2, b10, b00, not_true_eq_false, not_false_eq_true, true_implies, false_implies, implies_true, and_true, true_and, Nat.le_refl, true_or, or_true, eq_self, List.length_cons, List.length_nil, Nat.reduceAdd, Nat.reduceLT, Nat.reduceLeDiff]
      refine c_numberAt hM hs2 (by omega) b2.1 (by omega) ?_
      simp (disch := omega) only [↓EVi, ↓EVc, ↓ft_X7_unlike, ↓reduceIte, ↓EV_obs, ↓EV_obn, ↓EV_ais, ↓EV_ain, ↓EV_ob h0, ↓EV_ai a1, mdF, mRun, List.mem_cons, List.not_mem_nil, or_false, mtab_eq, Nat.reduceEqDiff, Nat.zero_add, hd1, mset2, b10, b00, not_true_eq_false, not_false_eq_true, true_implies, false_implies, implies_true, and_true, true_and, Nat.le_refl, true_or, or_true, eq_self, List.length_cons, List.length_nil, Nat.reduceAdd, Nat.reduceLT, Nat.reduceLeDiff]
      refine ⟨fun z2 => ?_, fun z2 => ?_⟩
      · rw [nI_1]
        refine ih _ _ ⟨rfl, rfl, fun j hj2 => ?_⟩
        by_cases e : j = k
        · subst e
          exact (kp_iff hw.1 hw2.1).mp ⟨Classical.not_not.mp z, z2⟩
        · exact hj j (by omega)
      · rw [unl_at (hm ▸ hk) (fun e => z2 ((kp_iff hw.1 hw2.1).mpr e).2) hj] at hp
        exact hp
    · rintro L h' ⟨rfl, rfl, hj⟩
      refine MW.run1 gd_X7_unlike [52] 60 ?_
      simp (disch := omega) only [↓EVi, ↓EVc, ↓ft_X7_unlike, ↓reduceIte, ↓EV_obs, ↓EV_obn, ↓EV_ais, ↓EV_ain, ↓EV_ob h0, ↓EV_ai a1, mdF, mRun, List.mem_cons, List.not_mem_nil, or_false, mtab_eq, Nat.reduceEqDiff, Nat.zero_add, hd1, mset2, b10, b00, not_true_eq_false, not_false_eq_true, true_implies, false_implies, implies_true, and_true, true_and, Nat.le_refl, true_or, or_true, eq_self, List.length_cons, List.length_nil, Nat.reduceAdd, Nat.reduceLT, Nat.reduceLeDiff]
      rw [unl_no (hm ▸ hj)] at hp
      exact ⟨fun _ => hp, fun c => absurd ((nI_leI (by omega) (by omega)).mpr (Nat.le_refl _)) c⟩
  refine ⟨vq, vr, fun c => ⟨vr, loop _ ?_⟩, fun c => ⟨vq, loop _ ?_⟩⟩
  · have := (nI_leI (by omega) (by omega)).mp c
    omega
  · have : ¬ es.length ≤ gs.length := fun z => c ((nI_leI (by omega) (by omega)).mpr z)
    omega
end MCS
