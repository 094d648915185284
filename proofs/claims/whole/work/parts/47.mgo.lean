/-! the model: one turn of goOne -/
theorem bl1 : ((1 : Int32) ≤ 0) = False := eq_false (by decide)
theorem blm : ((-1 : Int32) ≤ 0) = True := eq_true (by decide)
theorem b11 : ((1 : Int32) = 1) = True := eq_true rfl
theorem bmm : -(-1 : Int32) = 1 := by decide
theorem bm4 : ((-4 : Int32) = -4) = True := eq_true rfl
def mk3 (a : Nat → Nat → Int32) (i : Nat) (p w l : Int32) : Nat → Nat → Int32 := aset (aset (aset a 10 (upd (a 10) i p)) 11 (upd (a 11) i w)) 12 (upd (a 12) i l)
def mk5 (a : Nat → Nat → Int32) (q : Nat) (u e : Int32) : Nat → Nat → Int32 := aset (aset a 14 (upd (a 14) q (a 14 q + u))) 15 (upd (a 15) q (a 15 q + e))
section GOS
variable {G : mG} {d N M f q : Nat} {es : List Ev} {h : mH} {post : Option Value → mH → Prop} {v : Nat → Int32} {a : Nat → Nat → Int32} {x8 x9 x10 x11 : Option Value} {i0 j0 l : Int32}

set_option maxRecDepth 10000 in
theorem go_mark {x y : Nat} {wy : Int32} (hM : ModelC h G M v a) (hf : f < 8) (hq : v 24 = nI q) (hq15 : q < 15) (hx : x ≤ 30) (hy : 10 * x + y < 310) (hun : a 10 (10 * x + y) = -4)
    (k : ∀ h', ModelC h' G M v (mk3 a (10 * x + y) (nI q) wy l) → mKeep h h' M (M + 17) → MW G MX7_goOne (mz G d 0 0 post) 77 [some (.ref M), some (.int (nI f)), some (.int i0), some (.int j0), some (.int (nI x)), some (.int (nI y)), some (.int (wy)), some (.int (l)), x8, x9, x10, x11] [] h' (N, 0, 0)) : MW G MX7_goOne (mz G d 0 0 post) 12 [some (.ref M), some (.int (nI f)), some (.int i0), some (.int j0), some (.int (nI x)), some (.int (nI y)), some (.int (wy)), some (.int (l)), x8, x9, x10, x11] [] h (N, 0, 0) := by
  have h0 := hM.1
  have a10 : h (M + 10) = some (.inl (gC G 0, 310, .inl (a 10))) := hM.2 10 (by decide) (by decide)
  have a11 : h (M + 11) = some (.inl (gC G 0, 310, .inl (a 11))) := hM.2 11 (by decide) (by decide)
  have a12 : h (M + 12) = some (.inl (gC G 0, 310, .inl (a 12))) := hM.2 12 (by decide) (by decide)
  have hci : (10 * nI x + nI y).toNatClampNeg = 10 * x + y := by simp (disch := omega) only [z_nI, z_lit, z_neg, z_add, z_sub, z_mul, z_lt, z_le, z_eq, z_in, z_cl]; omega
  have vi : vp_in (10 * nI x + nI y) 310 := by simp (disch := omega) only [z_nI, z_lit, z_neg, z_add, z_sub, z_mul, z_lt, z_le, z_eq, z_in, z_cl]; omega
  clear hx hy hf hq15
  refine MW.run1 gd_X7_goOne [12, 77] 60 ?_
  simp (disch := omega) only [↓EVj, ↓w_if_eq, ↓EVc, ↓ft_X7_goOne, ↓reduceIte, ↓EV_obs, ↓EV_obn, ↓EV_ais, ↓EV_ain, ↓EV_ob h0, ↓EV_ai a10, ↓EV_ai a11, ↓EV_ai a12, mdF, mRun, List.mem_cons, List.not_mem_nil, or_false, mtab_eq, Nat.reduceEqDiff, Nat.zero_add, hci, vi, hun, bm4, hq, mset2, b10, b00, not_true_eq_false, not_false_eq_true, true_implies, false_implies, implies_true, and_true, true_and, Nat.le_refl, true_or, or_true, eq_self, List.length_cons, List.length_nil, Nat.reduceAdd, Nat.reduceLT, Nat.reduceLeDiff]
  exact k _ (ModelC_a (k := 12) (ModelC_a (k := 11) (ModelC_a (k := 10) hM (by decide) (by decide)) (by decide) (by decide)) (by decide) (by decide)) (fun z hz => by simp (disch := omega) only [mset_ne])
set_option maxRecDepth 10000 in
theorem go_evR {x : Nat} {yy : Int32} {K : Int32} {p : Nat} (hM : ModelC h G M v a) (hf : f < 8) (hq : v 24 = nI q) (hq15 : q < 15) (hx : x < 30) (hK : a 2 (30 * f + x) = K) (hP : a 3 (30 * f + x) = nI p)
    (k : MW G MX7_goOne (mz G d 0 0 post) 119 [some (.ref M), some (.int (nI f)), some (.int i0), some (.int j0), some (.int (nI x)), some (.int (yy)), some (.int (1)), some (.int (l)), some (.int (30 * nI f + nI x)), some (.int (nI p)), some (.int 2), x11] [] h (N, 0, 0)) : MW G MX7_goOne (mz G d 0 0 post) 77 [some (.ref M), some (.int (nI f)), some (.int i0), some (.int j0), some (.int (nI x)), some (.int (yy)), some (.int (1)), some (.int (l)), x8, x9, x10, x11] [] h (N, 0, 0) := by
  have h0 := hM.1
  have a3 : h (M + 3) = some (.inl (gC G 0, 240, .inl (a 3))) := hM.2 3 (by decide) (by decide)
  have hce : (30 * nI f + nI x).toNatClampNeg = 30 * f + x := by simp (disch := omega) only [z_nI, z_lit, z_neg, z_add, z_sub, z_mul, z_lt, z_le, z_eq, z_in, z_cl]; omega
  have ve : vp_in (30 * nI f + nI x) 240 := by simp (disch := omega) only [z_nI, z_lit, z_neg, z_add, z_sub, z_mul, z_lt, z_le, z_eq, z_in, z_cl]; omega
  clear hx hf hq15
  refine MW.run1 gd_X7_goOne [12, 77, 119] 60 ?_
  simp (disch := omega) only [↓EVj, ↓w_if_eq, ↓EVc, ↓ft_X7_goOne, ↓reduceIte, ↓EV_obs, ↓EV_obn, ↓EV_ais, ↓EV_ain, ↓EV_ob h0, ↓EV_ai a3, mdF, mRun, List.mem_cons, List.not_mem_nil, or_false, mtab_eq, Nat.reduceEqDiff, Nat.zero_add, hce, ve, hP, bl1, mset2, b10, b00, not_true_eq_false, not_false_eq_true, true_implies, false_implies, implies_true, and_true, true_and, Nat.le_refl, true_or, or_true, eq_self, List.length_cons, List.length_nil, Nat.reduceAdd, Nat.reduceLT, Nat.reduceLeDiff]
  exact k
set_option maxRecDepth 10000 in
theorem go_evL {x : Nat} {yy : Int32} {K : Int32} {p : Nat} (hM : ModelC h G M v a) (hf : f < 8) (hq : v 24 = nI q) (hq15 : q < 15) (hx : x < 30) (hK : a 2 (30 * f + x) = K) (hP : a 3 (30 * f + x) = nI p)
    (k : MW G MX7_goOne (mz G d 0 0 post) 119 [some (.ref M), some (.int (nI f)), some (.int i0), some (.int j0), some (.int (nI (x + 1))), some (.int (yy)), some (.int (-1)), some (.int (l)), some (.int (30 * nI f + (nI (x + 1) - 1))), some (.int (nI p)), some (.int 0), x11] [] h (N, 0, 0)) : MW G MX7_goOne (mz G d 0 0 post) 77 [some (.ref M), some (.int (nI f)), some (.int i0), some (.int j0), some (.int (nI (x + 1))), some (.int (yy)), some (.int (-1)), some (.int (l)), x8, x9, x10, x11] [] h (N, 0, 0) := by
  have h0 := hM.1
  have a3 : h (M + 3) = some (.inl (gC G 0, 240, .inl (a 3))) := hM.2 3 (by decide) (by decide)
  have hce : (30 * nI f + (nI (x + 1) - 1)).toNatClampNeg = 30 * f + x := by simp (disch := omega) only [z_nI, z_lit, z_neg, z_add, z_sub, z_mul, z_lt, z_le, z_eq, z_in, z_cl]; omega
  have ve : vp_in (30 * nI f + (nI (x + 1) - 1)) 240 := by simp (disch := omega) only [z_nI, z_lit, z_neg, z_add, z_sub, z_mul, z_lt, z_le, z_eq, z_in, z_cl]; omega
  clear hx hf hq15
  refine MW.run1 gd_X7_goOne [12, 77, 119] 60 ?_
  simp (disch := omega) only [↓EVj, ↓w_if_eq, ↓EVc, ↓ft_X7_goOne, ↓reduceIte, ↓EV_obs, ↓EV_obn, ↓EV_ais, ↓EV_ain, ↓EV_ob h0, ↓EV_ai a3, mdF, mRun, List.mem_cons, List.not_mem_nil, or_false, mtab_eq, Nat.reduceEqDiff, Nat.zero_add, hce, ve, hP, blm, mset2, b10, b00, not_true_eq_false, not_false_eq_true, true_implies, false_implies, implies_true, and_true, true_and, Nat.le_refl, true_or, or_true, eq_self, List.length_cons, List.length_nil, Nat.reduceAdd, Nat.reduceLT, Nat.reduceLeDiff]
  exact k
set_option maxRecDepth 10000 in
theorem go_cR1 {X ee : Int32} {p e : Nat} (hM : ModelC h G M v a) (hf : f < 8) (hq : v 24 = nI q) (hq15 : q < 15) (hp : p < 20) (hee : ee.toNatClampNeg = e) (ve : vp_in ee 240) (hK : a 2 e = 2)
    (k : ∀ h' z11, ModelC h' G M v (mk5 a q 1 0) → mKeep h h' M (M + 17) → MW G MX7_goOne (mz G d 0 0 post) 12 [some (.ref M), some (.int (nI f)), some (.int i0), some (.int j0), some (.int (X)), some (.int (nI p + 1)), some (.int (-1)), some (.int (l + 1)), some (.int ee), some (.int (nI p)), some (.int 2), z11] [] h' (N, 0, 0)) : MW G MX7_goOne (mz G d 0 0 post) 119 [some (.ref M), some (.int (nI f)), some (.int i0), some (.int j0), some (.int (X)), some (.int (nI p)), some (.int (1)), some (.int (l)), some (.int ee), some (.int (nI p)), some (.int 2), x11] [] h (N, 0, 0) := by
  have h0 := hM.1
  have a2 : h (M + 2) = some (.inl (gC G 0, 240, .inl (a 2))) := hM.2 2 (by decide) (by decide)
  have a14 : h (M + 14) = some (.inl (gC G 0, 15, .inl (a 14))) := hM.2 14 (by decide) (by decide)
  have a15 : h (M + 15) = some (.inl (gC G 0, 15, .inl (a 15))) := hM.2 15 (by decide) (by decide)
  have hqc : (v 24).toNatClampNeg = q := by rw [hq]; exact nI_clamp (by omega)
  have vq : vp_in (v 24) 15 := by rw [hq]; exact vp_in_nI (by omega) (by decide)
  have f1 : (nI p = nI p) = True := eq_true rfl
  clear hf hq15 hp
  refine MW.run1 gd_X7_goOne [12, 161] 60 ?_
  simp (disch := omega) only [↓EVj, ↓w_if_eq, ↓EVc, ↓ft_X7_goOne, ↓reduceIte, ↓EV_obs, ↓EV_obn, ↓EV_ais, ↓EV_ain, ↓EV_ob h0, ↓EV_ai a2, mdF, mRun, List.mem_cons, List.not_mem_nil, or_false, mtab_eq, Nat.reduceEqDiff, Nat.zero_add, hee, ve, hK, f1, b02, b20, b10, mset2, b10, b00, not_true_eq_false, not_false_eq_true, true_implies, false_implies, implies_true, and_true, true_and, Nat.le_refl, true_or, or_true, eq_self, List.length_cons, List.length_nil, Nat.reduceAdd, Nat.reduceLT, Nat.reduceLeDiff]
  refine MW.run1 gd_X7_goOne [12, 205] 60 ?_
  simp (disch := omega) only [↓EVj, ↓w_if_eq, ↓EVc, ↓ft_X7_goOne, ↓reduceIte, ↓EV_obs, ↓EV_obn, ↓EV_ais, ↓EV_ain, ↓EV_ob h0, ↓EV_ai a14, ↓EV_ai a15, mdF, mRun, List.mem_cons, List.not_mem_nil, or_false, mtab_eq, Nat.reduceEqDiff, Nat.zero_add, hqc, vq, b10, mset2, b10, b00, not_true_eq_false, not_false_eq_true, true_implies, false_implies, implies_true, and_true, true_and, Nat.le_refl, true_or, or_true, eq_self, List.length_cons, List.length_nil, Nat.reduceAdd, Nat.reduceLT, Nat.reduceLeDiff]
  refine MW.run1 gd_X7_goOne [12] 60 ?_
  simp (disch := omega) only [↓EVj, ↓w_if_eq, ↓EVc, ↓ft_X7_goOne, ↓reduceIte, ↓EV_obs, ↓EV_obn, ↓EV_ais, ↓EV_ain, ↓EV_ob h0, mdF, mRun, List.mem_cons, List.not_mem_nil, or_false, mtab_eq, Nat.reduceEqDiff, Nat.zero_add, b10, bmm, mset2, b10, b00, not_true_eq_false, not_false_eq_true, true_implies, false_implies, implies_true, and_true, true_and, Nat.le_refl, true_or, or_true, eq_self, List.length_cons, List.length_nil, Nat.reduceAdd, Nat.reduceLT, Nat.reduceLeDiff]
  exact k _ _ (ModelC_a (k := 15) (ModelC_a (k := 14) hM (by decide) (by decide)) (by decide) (by decide)) (fun z hz => by simp (disch := omega) only [mset_ne])
set_option maxRecDepth 10000 in
theorem go_cR0 {X ee : Int32} {p e : Nat} (hM : ModelC h G M v a) (hf : f < 8) (hq : v 24 = nI q) (hq15 : q < 15) (hp : p < 20) (hee : ee.toNatClampNeg = e) (ve : vp_in ee 240) (hK : a 2 e = 2)
    (k : ∀ h' z11, ModelC h' G M v (mk5 a q 0 1) → mKeep h h' M (M + 17) → MW G MX7_goOne (mz G d 0 0 post) 12 [some (.ref M), some (.int (nI f)), some (.int i0), some (.int j0), some (.int (X)), some (.int (nI p)), some (.int (-1)), some (.int (l + -1)), some (.int ee), some (.int (nI p)), some (.int 2), z11] [] h' (N, 0, 0)) : MW G MX7_goOne (mz G d 0 0 post) 119 [some (.ref M), some (.int (nI f)), some (.int i0), some (.int j0), some (.int (X)), some (.int (nI (p + 1))), some (.int (1)), some (.int (l)), some (.int ee), some (.int (nI p)), some (.int 2), x11] [] h (N, 0, 0) := by
  have h0 := hM.1
  have a2 : h (M + 2) = some (.inl (gC G 0, 240, .inl (a 2))) := hM.2 2 (by decide) (by decide)
  have a14 : h (M + 14) = some (.inl (gC G 0, 15, .inl (a 14))) := hM.2 14 (by decide) (by decide)
  have a15 : h (M + 15) = some (.inl (gC G 0, 15, .inl (a 15))) := hM.2 15 (by decide) (by decide)
  have hqc : (v 24).toNatClampNeg = q := by rw [hq]; exact nI_clamp (by omega)
  have vq : vp_in (v 24) 15 := by rw [hq]; exact vp_in_nI (by omega) (by decide)
  have f1 : (nI (p + 1) = nI p) = False := eq_false (by simp (disch := omega) only [z_nI, z_lit, z_neg, z_add, z_sub, z_mul, z_lt, z_le, z_eq, z_in, z_cl]; omega)
  have f2 : (nI (p + 1) = nI p + 1) = True := eq_true (nI_1 p).symm
  clear hf hq15 hp
  refine MW.run1 gd_X7_goOne [12, 161] 60 ?_
  simp (disch := omega) only [↓EVj, ↓w_if_eq, ↓EVc, ↓ft_X7_goOne, ↓reduceIte, ↓EV_obs, ↓EV_obn, ↓EV_ais, ↓EV_ain, ↓EV_ob h0, ↓EV_ai a2, mdF, mRun, List.mem_cons, List.not_mem_nil, or_false, mtab_eq, Nat.reduceEqDiff, Nat.zero_add, hee, ve, hK, f1, f2, b02, b20, b10, mset2, b10, b00, not_true_eq_false, not_false_eq_true, true_implies, false_implies, implies_true, and_true, true_and, Nat.le_refl, true_or, or_true, eq_self, List.length_cons, List.length_nil, Nat.reduceAdd, Nat.reduceLT, Nat.reduceLeDiff]
  refine MW.run1 gd_X7_goOne [12, 205] 60 ?_
  simp (disch := omega) only [↓EVj, ↓w_if_eq, ↓EVc, ↓ft_X7_goOne, ↓reduceIte, ↓EV_obs, ↓EV_obn, ↓EV_ais, ↓EV_ain, ↓EV_ob h0, ↓EV_ai a14, ↓EV_ai a15, mdF, mRun, List.mem_cons, List.not_mem_nil, or_false, mtab_eq, Nat.reduceEqDiff, Nat.zero_add, hqc, vq, b10, mset2, b10, b00, not_true_eq_false, not_false_eq_true, true_implies, false_implies, implies_true, and_true, true_and, Nat.le_refl, true_or, or_true, eq_self, List.length_cons, List.length_nil, Nat.reduceAdd, Nat.reduceLT, Nat.reduceLeDiff]
  refine MW.run1 gd_X7_goOne [12] 60 ?_
  simp (disch := omega) only [↓EVj, ↓w_if_eq, ↓EVc, ↓ft_X7_goOne, ↓reduceIte, ↓EV_obs, ↓EV_obn, ↓EV_ais, ↓EV_ain, ↓EV_ob h0, mdF, mRun, List.mem_cons, List.not_mem_nil, or_false, mtab_eq, Nat.reduceEqDiff, Nat.zero_add, b10, bmm, mset2, b10, b00, not_true_eq_false, not_false_eq_true, true_implies, false_implies, implies_true, and_true, true_and, Nat.le_refl, true_or, or_true, eq_self, List.length_cons, List.length_nil, Nat.reduceAdd, Nat.reduceLT, Nat.reduceLeDiff]
  exact k _ _ (ModelC_a (k := 15) (ModelC_a (k := 14) hM (by decide) (by decide)) (by decide) (by decide)) (fun z hz => by simp (disch := omega) only [mset_ne])
set_option maxRecDepth 10000 in
theorem go_cL1 {X ee : Int32} {p e : Nat} (hM : ModelC h G M v a) (hf : f < 8) (hq : v 24 = nI q) (hq15 : q < 15) (hp : p < 20) (hee : ee.toNatClampNeg = e) (ve : vp_in ee 240) (hK : a 2 e = 0)
    (k : ∀ h' z11, ModelC h' G M v (mk5 a q 1 0) → mKeep h h' M (M + 17) → MW G MX7_goOne (mz G d 0 0 post) 12 [some (.ref M), some (.int (nI f)), some (.int i0), some (.int j0), some (.int (X)), some (.int (nI p + 1)), some (.int (1)), some (.int (l + 1)), some (.int ee), some (.int (nI p)), some (.int 0), z11] [] h' (N, 0, 0)) : MW G MX7_goOne (mz G d 0 0 post) 119 [some (.ref M), some (.int (nI f)), some (.int i0), some (.int j0), some (.int (X)), some (.int (nI p)), some (.int (-1)), some (.int (l)), some (.int ee), some (.int (nI p)), some (.int 0), x11] [] h (N, 0, 0) := by
  have h0 := hM.1
  have a2 : h (M + 2) = some (.inl (gC G 0, 240, .inl (a 2))) := hM.2 2 (by decide) (by decide)
  have a14 : h (M + 14) = some (.inl (gC G 0, 15, .inl (a 14))) := hM.2 14 (by decide) (by decide)
  have a15 : h (M + 15) = some (.inl (gC G 0, 15, .inl (a 15))) := hM.2 15 (by decide) (by decide)
  have hqc : (v 24).toNatClampNeg = q := by rw [hq]; exact nI_clamp (by omega)
  have vq : vp_in (v 24) 15 := by rw [hq]; exact vp_in_nI (by omega) (by decide)
  have f1 : (nI p = nI p) = True := eq_true rfl
  clear hf hq15 hp
  refine MW.run1 gd_X7_goOne [12, 161] 60 ?_
  simp (disch := omega) only [↓EVj, ↓w_if_eq, ↓EVc, ↓ft_X7_goOne, ↓reduceIte, ↓EV_obs, ↓EV_obn, ↓EV_ais, ↓EV_ain, ↓EV_ob h0, ↓EV_ai a2, mdF, mRun, List.mem_cons, List.not_mem_nil, or_false, mtab_eq, Nat.reduceEqDiff, Nat.zero_add, hee, ve, hK, f1, b02, b20, b10, mset2, b10, b00, not_true_eq_false, not_false_eq_true, true_implies, false_implies, implies_true, and_true, true_and, Nat.le_refl, true_or, or_true, eq_self, List.length_cons, List.length_nil, Nat.reduceAdd, Nat.reduceLT, Nat.reduceLeDiff]
  refine MW.run1 gd_X7_goOne [12, 205] 60 ?_
  simp (disch := omega) only [↓EVj, ↓w_if_eq, ↓EVc, ↓ft_X7_goOne, ↓reduceIte, ↓EV_obs, ↓EV_obn, ↓EV_ais, ↓EV_ain, ↓EV_ob h0, ↓EV_ai a14, ↓EV_ai a15, mdF, mRun, List.mem_cons, List.not_mem_nil, or_false, mtab_eq, Nat.reduceEqDiff, Nat.zero_add, hqc, vq, b10, mset2, b10, b00, not_true_eq_false, not_false_eq_true, true_implies, false_implies, implies_true, and_true, true_and, Nat.le_refl, true_or, or_true, eq_self, List.length_cons, List.length_nil, Nat.reduceAdd, Nat.reduceLT, Nat.reduceLeDiff]
  refine MW.run1 gd_X7_goOne [12] 60 ?_
  simp (disch := omega) only [↓EVj, ↓w_if_eq, ↓EVc, ↓ft_X7_goOne, ↓reduceIte, ↓EV_obs, ↓EV_obn, ↓EV_ais, ↓EV_ain, ↓EV_ob h0, mdF, mRun, List.mem_cons, List.not_mem_nil, or_false, mtab_eq, Nat.reduceEqDiff, Nat.zero_add, b10, bmm, mset2, b10, b00, not_true_eq_false, not_false_eq_true, true_implies, false_implies, implies_true, and_true, true_and, Nat.le_refl, true_or, or_true, eq_self, List.length_cons, List.length_nil, Nat.reduceAdd, Nat.reduceLT, Nat.reduceLeDiff]
  exact k _ _ (ModelC_a (k := 15) (ModelC_a (k := 14) hM (by decide) (by decide)) (by decide) (by decide)) (fun z hz => by simp (disch := omega) only [mset_ne])
set_option maxRecDepth 10000 in
theorem go_cL0 {X ee : Int32} {p e : Nat} (hM : ModelC h G M v a) (hf : f < 8) (hq : v 24 = nI q) (hq15 : q < 15) (hp : p < 20) (hee : ee.toNatClampNeg = e) (ve : vp_in ee 240) (hK : a 2 e = 0)
    (k : ∀ h' z11, ModelC h' G M v (mk5 a q 0 1) → mKeep h h' M (M + 17) → MW G MX7_goOne (mz G d 0 0 post) 12 [some (.ref M), some (.int (nI f)), some (.int i0), some (.int j0), some (.int (X)), some (.int (nI p)), some (.int (1)), some (.int (l + -1)), some (.int ee), some (.int (nI p)), some (.int 0), z11] [] h' (N, 0, 0)) : MW G MX7_goOne (mz G d 0 0 post) 119 [some (.ref M), some (.int (nI f)), some (.int i0), some (.int j0), some (.int (X)), some (.int (nI (p + 1))), some (.int (-1)), some (.int (l)), some (.int ee), some (.int (nI p)), some (.int 0), x11] [] h (N, 0, 0) := by
  have h0 := hM.1
  have a2 : h (M + 2) = some (.inl (gC G 0, 240, .inl (a 2))) := hM.2 2 (by decide) (by decide)
  have a14 : h (M + 14) = some (.inl (gC G 0, 15, .inl (a 14))) := hM.2 14 (by decide) (by decide)
  have a15 : h (M + 15) = some (.inl (gC G 0, 15, .inl (a 15))) := hM.2 15 (by decide) (by decide)
  have hqc : (v 24).toNatClampNeg = q := by rw [hq]; exact nI_clamp (by omega)
  have vq : vp_in (v 24) 15 := by rw [hq]; exact vp_in_nI (by omega) (by decide)
  have f1 : (nI (p + 1) = nI p) = False := eq_false (by simp (disch := omega) only [z_nI, z_lit, z_neg, z_add, z_sub, z_mul, z_lt, z_le, z_eq, z_in, z_cl]; omega)
  have f2 : (nI (p + 1) = nI p + 1) = True := eq_true (nI_1 p).symm
  clear hf hq15 hp
  refine MW.run1 gd_X7_goOne [12, 161] 60 ?_
  simp (disch := omega) only [↓EVj, ↓w_if_eq, ↓EVc, ↓ft_X7_goOne, ↓reduceIte, ↓EV_obs, ↓EV_obn, ↓EV_ais, ↓EV_ain, ↓EV_ob h0, ↓EV_ai a2, mdF, mRun, List.mem_cons, List.not_mem_nil, or_false, mtab_eq, Nat.reduceEqDiff, Nat.zero_add, hee, ve, hK, f1, f2, b02, b20, b10, mset2, b10, b00, not_true_eq_false, not_false_eq_true, true_implies, false_implies, implies_true, and_true, true_and, Nat.le_refl, true_or, or_true, eq_self, List.length_cons, List.length_nil, Nat.reduceAdd, Nat.reduceLT, Nat.reduceLeDiff]
  refine MW.run1 gd_X7_goOne [12, 205] 60 ?_
  simp (disch := omega) only [↓EVj, ↓w_if_eq, ↓EVc, ↓ft_X7_goOne, ↓reduceIte, ↓EV_obs, ↓EV_obn, ↓EV_ais, ↓EV_ain, ↓EV_ob h0, ↓EV_ai a14, ↓EV_ai a15, mdF, mRun, List.mem_cons, List.not_mem_nil, or_false, mtab_eq, Nat.reduceEqDiff, Nat.zero_add, hqc, vq, b10, mset2, b10, b00, not_true_eq_false, not_false_eq_true, true_implies, false_implies, implies_true, and_true, true_and, Nat.le_refl, true_or, or_true, eq_self, List.length_cons, List.length_nil, Nat.reduceAdd, Nat.reduceLT, Nat.reduceLeDiff]
  refine MW.run1 gd_X7_goOne [12] 60 ?_
  simp (disch := omega) only [↓EVj, ↓w_if_eq, ↓EVc, ↓ft_X7_goOne, ↓reduceIte, ↓EV_obs, ↓EV_obn, ↓EV_ais, ↓EV_ain, ↓EV_ob h0, mdF, mRun, List.mem_cons, List.not_mem_nil, or_false, mtab_eq, Nat.reduceEqDiff, Nat.zero_add, b10, bmm, mset2, b10, b00, not_true_eq_false, not_false_eq_true, true_implies, false_implies, implies_true, and_true, true_and, Nat.le_refl, true_or, or_true, eq_self, List.length_cons, List.length_nil, Nat.reduceAdd, Nat.reduceLT, Nat.reduceLeDiff]
  exact k _ _ (ModelC_a (k := 15) (ModelC_a (k := 14) hM (by decide) (by decide)) (by decide) (by decide)) (fun z hz => by simp (disch := omega) only [mset_ne])
set_option maxRecDepth 10000 in
theorem go_nR0 {X ee : Int32} {p e y : Nat} (hM : ModelC h G M v a) (hf : f < 8) (hq : v 24 = nI q) (hq15 : q < 15) (hp : p < 20) (hy : y < 20) (hee : ee.toNatClampNeg = e) (ve : vp_in ee 240) (hK : a 2 e = 0)
    (k : MW G MX7_goOne (mz G d 0 0 post) 12 [some (.ref M), some (.int (nI f)), some (.int i0), some (.int j0), some (.int (X + 1)), some (.int (nI (if p ≤ y then y + 2 else y))), some (.int (1)), some (.int (l)), some (.int ee), some (.int (nI p)), some (.int 2), x11] [] h (N, 0, 0)) : MW G MX7_goOne (mz G d 0 0 post) 119 [some (.ref M), some (.int (nI f)), some (.int i0), some (.int j0), some (.int (X)), some (.int (nI y)), some (.int (1)), some (.int (l)), some (.int ee), some (.int (nI p)), some (.int 2), x11] [] h (N, 0, 0) := by
  have h0 := hM.1
  have a2 : h (M + 2) = some (.inl (gC G 0, 240, .inl (a 2))) := hM.2 2 (by decide) (by decide)
  by_cases c1 : p ≤ y
  · rw [if_pos c1, show nI (y + 2) = nI y + 2 from (nI_add y 2).symm] at k
    have g1 : (nI y < nI p) = False := eq_false (by simp (disch := omega) only [z_nI, z_lit, z_neg, z_add, z_sub, z_mul, z_lt, z_le, z_eq, z_in, z_cl]; omega)
    clear hf hq15 hp hy
    refine MW.run1 gd_X7_goOne [12, 244] 60 ?_
    simp (disch := omega) only [↓EVj, ↓w_if_eq, ↓EVc, ↓ft_X7_goOne, ↓reduceIte, ↓EV_obs, ↓EV_obn, ↓EV_ais, ↓EV_ain, ↓EV_ob h0, ↓EV_ai a2, mdF, mRun, List.mem_cons, List.not_mem_nil, or_false, mtab_eq, Nat.reduceEqDiff, Nat.zero_add, hee, ve, hK, b02, b12, b20, b01, b21, b10, b11, bl1, mset2, b10, b00, not_true_eq_false, not_false_eq_true, true_implies, false_implies, implies_true, and_true, true_and, Nat.le_refl, true_or, or_true, eq_self, List.length_cons, List.length_nil, Nat.reduceAdd, Nat.reduceLT, Nat.reduceLeDiff]
    refine MW.run1 gd_X7_goOne [12] 60 ?_
    simp (disch := omega) only [↓EVj, ↓w_if_eq, ↓EVc, ↓ft_X7_goOne, ↓reduceIte, ↓EV_obs, ↓EV_obn, ↓EV_ais, ↓EV_ain, ↓EV_ob h0, ↓EV_ai a2, mdF, mRun, List.mem_cons, List.not_mem_nil, or_false, mtab_eq, Nat.reduceEqDiff, Nat.zero_add, hee, ve, hK, g1, b02, b12, b20, b01, b21, b10, b11, bl1, mset2, b10, b00, not_true_eq_false, not_false_eq_true, true_implies, false_implies, implies_true, and_true, true_and, Nat.le_refl, true_or, or_true, eq_self, List.length_cons, List.length_nil, Nat.reduceAdd, Nat.reduceLT, Nat.reduceLeDiff]
    exact k
  · rw [if_neg c1, show nI y = nI y + 0 from (nI_add y 0).symm] at k
    have g1 : (nI y < nI p) = True := eq_true (by simp (disch := omega) only [z_nI, z_lit, z_neg, z_add, z_sub, z_mul, z_lt, z_le, z_eq, z_in, z_cl]; omega)
    clear hf hq15 hp hy
    refine MW.run1 gd_X7_goOne [12, 244] 60 ?_
    simp (disch := omega) only [↓EVj, ↓w_if_eq, ↓EVc, ↓ft_X7_goOne, ↓reduceIte, ↓EV_obs, ↓EV_obn, ↓EV_ais, ↓EV_ain, ↓EV_ob h0, ↓EV_ai a2, mdF, mRun, List.mem_cons, List.not_mem_nil, or_false, mtab_eq, Nat.reduceEqDiff, Nat.zero_add, hee, ve, hK, b02, b12, b20, b01, b21, b10, b11, bl1, mset2, b10, b00, not_true_eq_false, not_false_eq_true, true_implies, false_implies, implies_true, and_true, true_and, Nat.le_refl, true_or, or_true, eq_self, List.length_cons, List.length_nil, Nat.reduceAdd, Nat.reduceLT, Nat.reduceLeDiff]
    refine MW.run1 gd_X7_goOne [12] 60 ?_
    simp (disch := omega) only [↓EVj, ↓w_if_eq, ↓EVc, ↓ft_X7_goOne, ↓reduceIte, ↓EV_obs, ↓EV_obn, ↓EV_ais, ↓EV_ain, ↓EV_ob h0, ↓EV_ai a2, mdF, mRun, List.mem_cons, List.not_mem_nil, or_false, mtab_eq, Nat.reduceEqDiff, Nat.zero_add, hee, ve, hK, g1, b02, b12, b20, b01, b21, b10, b11, bl1, mset2, b10, b00, not_true_eq_false, not_false_eq_true, true_implies, false_implies, implies_true, and_true, true_and, Nat.le_refl, true_or, or_true, eq_self, List.length_cons, List.length_nil, Nat.reduceAdd, Nat.reduceLT, Nat.reduceLeDiff]
    exact k
set_option maxRecDepth 10000 in
theorem go_nR1 {X ee : Int32} {p e y : Nat} (hM : ModelC h G M v a) (hf : f < 8) (hq : v 24 = nI q) (hq15 : q < 15) (hp : p < 20) (hy : y < 20) (hee : ee.toNatClampNeg = e) (ve : vp_in ee 240) (hK : a 2 e = 1)
    (k : MW G MX7_goOne (mz G d 0 0 post) 12 [some (.ref M), some (.int (nI f)), some (.int i0), some (.int j0), some (.int (X + 1)), some (.int (nI (if y = p then p + 1 else if y = p + 1 then p else y))), some (.int (1)), some (.int (l)), some (.int ee), some (.int (nI p)), some (.int 2), x11] [] h (N, 0, 0)) : MW G MX7_goOne (mz G d 0 0 post) 119 [some (.ref M), some (.int (nI f)), some (.int i0), some (.int j0), some (.int (X)), some (.int (nI y)), some (.int (1)), some (.int (l)), some (.int ee), some (.int (nI p)), some (.int 2), x11] [] h (N, 0, 0) := by
  have h0 := hM.1
  have a2 : h (M + 2) = some (.inl (gC G 0, 240, .inl (a 2))) := hM.2 2 (by decide) (by decide)
  by_cases c1 : y = p
  · rw [if_pos c1] at k
    have g1 : (nI y = nI p) = True := eq_true (by rw [c1])
    rw [← nI_1] at k
    clear hf hq15 hp hy
    refine MW.run1 gd_X7_goOne [12, 244] 60 ?_
    simp (disch := omega) only [↓EVj, ↓w_if_eq, ↓EVc, ↓ft_X7_goOne, ↓reduceIte, ↓EV_obs, ↓EV_obn, ↓EV_ais, ↓EV_ain, ↓EV_ob h0, ↓EV_ai a2, mdF, mRun, List.mem_cons, List.not_mem_nil, or_false, mtab_eq, Nat.reduceEqDiff, Nat.zero_add, hee, ve, hK, b02, b12, b20, b01, b21, b10, b11, bl1, mset2, b10, b00, not_true_eq_false, not_false_eq_true, true_implies, false_implies, implies_true, and_true, true_and, Nat.le_refl, true_or, or_true, eq_self, List.length_cons, List.length_nil, Nat.reduceAdd, Nat.reduceLT, Nat.reduceLeDiff]
    refine MW.run1 gd_X7_goOne [12] 60 ?_
    simp (disch := omega) only [↓EVj, ↓w_if_eq, ↓EVc, ↓ft_X7_goOne, ↓reduceIte, ↓EV_obs, ↓EV_obn, ↓EV_ais, ↓EV_ain, ↓EV_ob h0, ↓EV_ai a2, mdF, mRun, List.mem_cons, List.not_mem_nil, or_false, mtab_eq, Nat.reduceEqDiff, Nat.zero_add, hee, ve, hK, g1, b02, b12, b20, b01, b21, b10, b11, bl1, mset2, b10, b00, not_true_eq_false, not_false_eq_true, true_implies, false_implies, implies_true, and_true, true_and, Nat.le_refl, true_or, or_true, eq_self, List.length_cons, List.length_nil, Nat.reduceAdd, Nat.reduceLT, Nat.reduceLeDiff]
    exact k
  rw [if_neg c1] at k
  have g1 : (nI y = nI p) = False := eq_false (by simp (disch := omega) only [z_nI, z_lit, z_neg, z_add, z_sub, z_mul, z_lt, z_le, z_eq, z_in, z_cl]; omega)
  by_cases c2 : y = p + 1
  · rw [if_pos c2] at k
    have g2 : (nI y = nI p + 1) = True := eq_true (by rw [c2, nI_1])
    clear hf hq15 hp hy
    refine MW.run1 gd_X7_goOne [12, 244] 60 ?_
    simp (disch := omega) only [↓EVj, ↓w_if_eq, ↓EVc, ↓ft_X7_goOne, ↓reduceIte, ↓EV_obs, ↓EV_obn, ↓EV_ais, ↓EV_ain, ↓EV_ob h0, ↓EV_ai a2, mdF, mRun, List.mem_cons, List.not_mem_nil, or_false, mtab_eq, Nat.reduceEqDiff, Nat.zero_add, hee, ve, hK, b02, b12, b20, b01, b21, b10, b11, bl1, mset2, b10, b00, not_true_eq_false, not_false_eq_true, true_implies, false_implies, implies_true, and_true, true_and, Nat.le_refl, true_or, or_true, eq_self, List.length_cons, List.length_nil, Nat.reduceAdd, Nat.reduceLT, Nat.reduceLeDiff]
    refine MW.run1 gd_X7_goOne [12] 60 ?_
    simp (disch := omega) only [↓EVj, ↓w_if_eq, ↓EVc, ↓ft_X7_goOne, ↓reduceIte, ↓EV_obs, ↓EV_obn, ↓EV_ais, ↓EV_ain, ↓EV_ob h0, ↓EV_ai a2, mdF, mRun, List.mem_cons, List.not_mem_nil, or_false, mtab_eq, Nat.reduceEqDiff, Nat.zero_add, hee, ve, hK, g1, g2, b02, b12, b20, b01, b21, b10, b11, bl1, mset2, b10, b00, not_true_eq_false, not_false_eq_true, true_implies, false_implies, implies_true, and_true, true_and, Nat.le_refl, true_or, or_true, eq_self, List.length_cons, List.length_nil, Nat.reduceAdd, Nat.reduceLT, Nat.reduceLeDiff]
    exact k
  rw [if_neg c2] at k
  have g2 : (nI y = nI p + 1) = False := eq_false (by simp (disch := omega) only [z_nI, z_lit, z_neg, z_add, z_sub, z_mul, z_lt, z_le, z_eq, z_in, z_cl]; omega)
  clear hf hq15 hp hy
  refine MW.run1 gd_X7_goOne [12, 244] 60 ?_
  simp (disch := omega) only [↓EVj, ↓w_if_eq, ↓EVc, ↓ft_X7_goOne, ↓reduceIte, ↓EV_obs, ↓EV_obn, ↓EV_ais, ↓EV_ain, ↓EV_ob h0, ↓EV_ai a2, mdF, mRun, List.mem_cons, List.not_mem_nil, or_false, mtab_eq, Nat.reduceEqDiff, Nat.zero_add, hee, ve, hK, b02, b12, b20, b01, b21, b10, b11, bl1, mset2, b10, b00, not_true_eq_false, not_false_eq_true, true_implies, false_implies, implies_true, and_true, true_and, Nat.le_refl, true_or, or_true, eq_self, List.length_cons, List.length_nil, Nat.reduceAdd, Nat.reduceLT, Nat.reduceLeDiff]
  refine MW.run1 gd_X7_goOne [12] 60 ?_
  simp (disch := omega) only [↓EVj, ↓w_if_eq, ↓EVc, ↓ft_X7_goOne, ↓reduceIte, ↓EV_obs, ↓EV_obn, ↓EV_ais, ↓EV_ain, ↓EV_ob h0, ↓EV_ai a2, mdF, mRun, List.mem_cons, List.not_mem_nil, or_false, mtab_eq, Nat.reduceEqDiff, Nat.zero_add, hee, ve, hK, g1, g2, b02, b12, b20, b01, b21, b10, b11, bl1, mset2, b10, b00, not_true_eq_false, not_false_eq_true, true_implies, false_implies, implies_true, and_true, true_and, Nat.le_refl, true_or, or_true, eq_self, List.length_cons, List.length_nil, Nat.reduceAdd, Nat.reduceLT, Nat.reduceLeDiff]
  exact k
set_option maxRecDepth 10000 in
theorem go_nR2 {X ee : Int32} {p e y : Nat} (hM : ModelC h G M v a) (hf : f < 8) (hq : v 24 = nI q) (hq15 : q < 15) (hp : p < 20) (hy : y < 20) (hee : ee.toNatClampNeg = e) (ve : vp_in ee 240) (hK : a 2 e = 2) (hn : y ≠ p ∧ y ≠ p + 1)
    (k : MW G MX7_goOne (mz G d 0 0 post) 12 [some (.ref M), some (.int (nI f)), some (.int i0), some (.int j0), some (.int (X + 1)), some (.int (nI (if p + 1 < y then y - 2 else y))), some (.int (1)), some (.int (l)), some (.int ee), some (.int (nI p)), some (.int 2), x11] [] h (N, 0, 0)) : MW G MX7_goOne (mz G d 0 0 post) 119 [some (.ref M), some (.int (nI f)), some (.int i0), some (.int j0), some (.int (X)), some (.int (nI y)), some (.int (1)), some (.int (l)), some (.int ee), some (.int (nI p)), some (.int 2), x11] [] h (N, 0, 0) := by
  have h0 := hM.1
  have a2 : h (M + 2) = some (.inl (gC G 0, 240, .inl (a 2))) := hM.2 2 (by decide) (by decide)
  have f1 : (nI y = nI p) = False := eq_false (by simp (disch := omega) only [z_nI, z_lit, z_neg, z_add, z_sub, z_mul, z_lt, z_le, z_eq, z_in, z_cl]; omega)
  have f2 : (nI y = nI p + 1) = False := eq_false (by simp (disch := omega) only [z_nI, z_lit, z_neg, z_add, z_sub, z_mul, z_lt, z_le, z_eq, z_in, z_cl]; omega)
  by_cases c1 : p + 1 < y
  · rw [if_pos c1, show nI (y - 2) = nI y + -2 by simp (disch := omega) only [z_nI, z_lit, z_neg, z_add, z_sub, z_mul, z_lt, z_le, z_eq, z_in, z_cl]; omega] at k
    have g1 : (nI y ≤ nI p + 1) = False := eq_false (by simp (disch := omega) only [z_nI, z_lit, z_neg, z_add, z_sub, z_mul, z_lt, z_le, z_eq, z_in, z_cl]; omega)
    clear hf hq15 hp hy hn
    refine MW.run1 gd_X7_goOne [12, 244] 60 ?_
    simp (disch := omega) only [↓EVj, ↓w_if_eq, ↓EVc, ↓ft_X7_goOne, ↓reduceIte, ↓EV_obs, ↓EV_obn, ↓EV_ais, ↓EV_ain, ↓EV_ob h0, ↓EV_ai a2, mdF, mRun, List.mem_cons, List.not_mem_nil, or_false, mtab_eq, Nat.reduceEqDiff, Nat.zero_add, hee, ve, hK, f1, f2, b02, b12, b20, b01, b21, b10, b11, bl1, mset2, b10, b00, not_true_eq_false, not_false_eq_true, true_implies, false_implies, implies_true, and_true, true_and, Nat.le_refl, true_or, or_true, eq_self, List.length_cons, List.length_nil, Nat.reduceAdd, Nat.reduceLT, Nat.reduceLeDiff]
    refine MW.run1 gd_X7_goOne [12] 60 ?_
    simp (disch := omega) only [↓EVj, ↓w_if_eq, ↓EVc, ↓ft_X7_goOne, ↓reduceIte, ↓EV_obs, ↓EV_obn, ↓EV_ais, ↓EV_ain, ↓EV_ob h0, ↓EV_ai a2, mdF, mRun, List.mem_cons, List.not_mem_nil, or_false, mtab_eq, Nat.reduceEqDiff, Nat.zero_add, hee, ve, hK, g1, b02, b12, b20, b01, b21, b10, b11, bl1, mset2, b10, b00, not_true_eq_false, not_false_eq_true, true_implies, false_implies, implies_true, and_true, true_and, Nat.le_refl, true_or, or_true, eq_self, List.length_cons, List.length_nil, Nat.reduceAdd, Nat.reduceLT, Nat.reduceLeDiff]
    exact k
  · rw [if_neg c1, show nI y = nI y + 0 from (nI_add y 0).symm] at k
    have g1 : (nI y ≤ nI p + 1) = True := eq_true (by simp (disch := omega) only [z_nI, z_lit, z_neg, z_add, z_sub, z_mul, z_lt, z_le, z_eq, z_in, z_cl]; omega)
    clear hf hq15 hp hy hn
    refine MW.run1 gd_X7_goOne [12, 244] 60 ?_
    simp (disch := omega) only [↓EVj, ↓w_if_eq, ↓EVc, ↓ft_X7_goOne, ↓reduceIte, ↓EV_obs, ↓EV_obn, ↓EV_ais, ↓EV_ain, ↓EV_ob h0, ↓EV_ai a2, mdF, mRun, List.mem_cons, List.not_mem_nil, or_false, mtab_eq, Nat.reduceEqDiff, Nat.zero_add, hee, ve, hK, f1, f2, b02, b12, b20, b01, b21, b10, b11, bl1, mset2, b10, b00, not_true_eq_false, not_false_eq_true, true_implies, false_implies, implies_true, and_true, true_and, Nat.le_refl, true_or, or_true, eq_self, List.length_cons, List.length_nil, Nat.reduceAdd, Nat.reduceLT, Nat.reduceLeDiff]
    refine MW.run1 gd_X7_goOne [12] 60 ?_
    simp (disch := omega) only [↓EVj, ↓w_if_eq, ↓EVc, ↓ft_X7_goOne, ↓reduceIte, ↓EV_obs, ↓EV_obn, ↓EV_ais, ↓EV_ain, ↓EV_ob h0, ↓EV_ai a2, mdF, mRun, List.mem_cons, List.not_mem_nil, or_false, mtab_eq, Nat.reduceEqDiff, Nat.zero_add, hee, ve, hK, g1, b02, b12, b20, b01, b21, b10, b11, bl1, mset2, b10, b00, not_true_eq_false, not_false_eq_true, true_implies, false_implies, implies_true, and_true, true_and, Nat.le_refl, true_or, or_true, eq_self, List.length_cons, List.length_nil, Nat.reduceAdd, Nat.reduceLT, Nat.reduceLeDiff]
    exact k
set_option maxRecDepth 10000 in
theorem go_nL0 {X ee : Int32} {p e y : Nat} (hM : ModelC h G M v a) (hf : f < 8) (hq : v 24 = nI q) (hq15 : q < 15) (hp : p < 20) (hy : y < 20) (hee : ee.toNatClampNeg = e) (ve : vp_in ee 240) (hK : a 2 e = 0) (hn : y ≠ p ∧ y ≠ p + 1)
    (k : MW G MX7_goOne (mz G d 0 0 post) 12 [some (.ref M), some (.int (nI f)), some (.int i0), some (.int j0), some (.int (X + -1)), some (.int (nI (if p + 1 < y then y - 2 else y))), some (.int (-1)), some (.int (l)), some (.int ee), some (.int (nI p)), some (.int 0), x11] [] h (N, 0, 0)) : MW G MX7_goOne (mz G d 0 0 post) 119 [some (.ref M), some (.int (nI f)), some (.int i0), some (.int j0), some (.int (X)), some (.int (nI y)), some (.int (-1)), some (.int (l)), some (.int ee), some (.int (nI p)), some (.int 0), x11] [] h (N, 0, 0) := by
  have h0 := hM.1
  have a2 : h (M + 2) = some (.inl (gC G 0, 240, .inl (a 2))) := hM.2 2 (by decide) (by decide)
  have f1 : (nI y = nI p) = False := eq_false (by simp (disch := omega) only [z_nI, z_lit, z_neg, z_add, z_sub, z_mul, z_lt, z_le, z_eq, z_in, z_cl]; omega)
  have f2 : (nI y = nI p + 1) = False := eq_false (by simp (disch := omega) only [z_nI, z_lit, z_neg, z_add, z_sub, z_mul, z_lt, z_le, z_eq, z_in, z_cl]; omega)
  by_cases c1 : p + 1 < y
  · rw [if_pos c1, show nI (y - 2) = nI y + -2 by simp (disch := omega) only [z_nI, z_lit, z_neg, z_add, z_sub, z_mul, z_lt, z_le, z_eq, z_in, z_cl]; omega] at k
    have g1 : (nI y ≤ nI p + 1) = False := eq_false (by simp (disch := omega) only [z_nI, z_lit, z_neg, z_add, z_sub, z_mul, z_lt, z_le, z_eq, z_in, z_cl]; omega)
    clear hf hq15 hp hy hn
    refine MW.run1 gd_X7_goOne [12, 244] 60 ?_
    simp (disch := omega) only [↓EVj, ↓w_if_eq, ↓EVc, ↓ft_X7_goOne, ↓reduceIte, ↓EV_obs, ↓EV_obn, ↓EV_ais, ↓EV_ain, ↓EV_ob h0, ↓EV_ai a2, mdF, mRun, List.mem_cons, List.not_mem_nil, or_false, mtab_eq, Nat.reduceEqDiff, Nat.zero_add, hee, ve, hK, f1, f2, b02, b12, b20, b01, b21, b10, b11, blm, mset2, b10, b00, not_true_eq_false, not_false_eq_true, true_implies, false_implies, implies_true, and_true, true_and, Nat.le_refl, true_or, or_true, eq_self, List.length_cons, List.length_nil, Nat.reduceAdd, Nat.reduceLT, Nat.reduceLeDiff]
    refine MW.run1 gd_X7_goOne [12] 60 ?_
    simp (disch := omega) only [↓EVj, ↓w_if_eq, ↓EVc, ↓ft_X7_goOne, ↓reduceIte, ↓EV_obs, ↓EV_obn, ↓EV_ais, ↓EV_ain, ↓EV_ob h0, ↓EV_ai a2, mdF, mRun, List.mem_cons, List.not_mem_nil, or_false, mtab_eq, Nat.reduceEqDiff, Nat.zero_add, hee, ve, hK, g1, b02, b12, b20, b01, b21, b10, b11, blm, mset2, b10, b00, not_true_eq_false, not_false_eq_true, true_implies, false_implies, implies_true, and_true, true_and, Nat.le_refl, true_or, or_true, eq_self, List.length_cons, List.length_nil, Nat.reduceAdd, Nat.reduceLT, Nat.reduceLeDiff]
    exact k
  · rw [if_neg c1, show nI y = nI y + 0 from (nI_add y 0).symm] at k
    have g1 : (nI y ≤ nI p + 1) = True := eq_true (by simp (disch := omega) only [z_nI, z_lit, z_neg, z_add, z_sub, z_mul, z_lt, z_le, z_eq, z_in, z_cl]; omega)
    clear hf hq15 hp hy hn
    refine MW.run1 gd_X7_goOne [12, 244] 60 ?_
    simp (disch := omega) only [↓EVj, ↓w_if_eq, ↓EVc, ↓ft_X7_goOne, ↓reduceIte, ↓EV_obs, ↓EV_obn, ↓EV_ais, ↓EV_ain, ↓EV_ob h0, ↓EV_ai a2, mdF, mRun, List.mem_cons, List.not_mem_nil, or_false, mtab_eq, Nat.reduceEqDiff, Nat.zero_add, hee, ve, hK, f1, f2, b02, b12, b20, b01, b21, b10, b11, blm, mset2, b10, b00, not_true_eq_false, not_false_eq_true, true_implies, false_implies, implies_true, and_true, true_and, Nat.le_refl, true_or, or_true, eq_self, List.length_cons, List.length_nil, Nat.reduceAdd, Nat.reduceLT, Nat.reduceLeDiff]
    refine MW.run1 gd_X7_goOne [12] 60 ?_
    simp (disch := omega) only [↓EVj, ↓w_if_eq, ↓EVc, ↓ft_X7_goOne, ↓reduceIte, ↓EV_obs, ↓EV_obn, ↓EV_ais, ↓EV_ain, ↓EV_ob h0, ↓EV_ai a2, mdF, mRun, List.mem_cons, List.not_mem_nil, or_false, mtab_eq, Nat.reduceEqDiff, Nat.zero_add, hee, ve, hK, g1, b02, b12, b20, b01, b21, b10, b11, blm, mset2, b10, b00, not_true_eq_false, not_false_eq_true, true_implies, false_implies, implies_true, and_true, true_and, Nat.le_refl, true_or, or_true, eq_self, List.length_cons, List.length_nil, Nat.reduceAdd, Nat.reduceLT, Nat.reduceLeDiff]
    exact k
set_option maxRecDepth 10000 in
theorem go_nL1 {X ee : Int32} {p e y : Nat} (hM : ModelC h G M v a) (hf : f < 8) (hq : v 24 = nI q) (hq15 : q < 15) (hp : p < 20) (hy : y < 20) (hee : ee.toNatClampNeg = e) (ve : vp_in ee 240) (hK : a 2 e = 1)
    (k : MW G MX7_goOne (mz G d 0 0 post) 12 [some (.ref M), some (.int (nI f)), some (.int i0), some (.int j0), some (.int (X + -1)), some (.int (nI (if y = p then p + 1 else if y = p + 1 then p else y))), some (.int (-1)), some (.int (l)), some (.int ee), some (.int (nI p)), some (.int 0), x11] [] h (N, 0, 0)) : MW G MX7_goOne (mz G d 0 0 post) 119 [some (.ref M), some (.int (nI f)), some (.int i0), some (.int j0), some (.int (X)), some (.int (nI y)), some (.int (-1)), some (.int (l)), some (.int ee), some (.int (nI p)), some (.int 0), x11] [] h (N, 0, 0) := by
  have h0 := hM.1
  have a2 : h (M + 2) = some (.inl (gC G 0, 240, .inl (a 2))) := hM.2 2 (by decide) (by decide)
  by_cases c1 : y = p
  · rw [if_pos c1] at k
    have g1 : (nI y = nI p) = True := eq_true (by rw [c1])
    rw [← nI_1] at k
    clear hf hq15 hp hy
    refine MW.run1 gd_X7_goOne [12, 244] 60 ?_
    simp (disch := omega) only [↓EVj, ↓w_if_eq, ↓EVc, ↓ft_X7_goOne, ↓reduceIte, ↓EV_obs, ↓EV_obn, ↓EV_ais, ↓EV_ain, ↓EV_ob h0, ↓EV_ai a2, mdF, mRun, List.mem_cons, List.not_mem_nil, or_false, mtab_eq, Nat.reduceEqDiff, Nat.zero_add, hee, ve, hK, b02, b12, b20, b01, b21, b10, b11, blm, mset2, b10, b00, not_true_eq_false, not_false_eq_true, true_implies, false_implies, implies_true, and_true, true_and, Nat.le_refl, true_or, or_true, eq_self, List.length_cons, List.length_nil, Nat.reduceAdd, Nat.reduceLT, Nat.reduceLeDiff]
    refine MW.run1 gd_X7_goOne [12] 60 ?_
    simp (disch := omega) only [↓EVj, ↓w_if_eq, ↓EVc, ↓ft_X7_goOne, ↓reduceIte, ↓EV_obs, ↓EV_obn, ↓EV_ais, ↓EV_ain, ↓EV_ob h0, ↓EV_ai a2, mdF, mRun, List.mem_cons, List.not_mem_nil, or_false, mtab_eq, Nat.reduceEqDiff, Nat.zero_add, hee, ve, hK, g1, b02, b12, b20, b01, b21, b10, b11, blm, mset2, b10, b00, not_true_eq_false, not_false_eq_true, true_implies, false_implies, implies_true, and_true, true_and, Nat.le_refl, true_or, or_true, eq_self, List.length_cons, List.length_nil, Nat.reduceAdd, Nat.reduceLT, Nat.reduceLeDiff]
    exact k
  rw [if_neg c1] at k
  have g1 : (nI y = nI p) = False := eq_false (by simp (disch := omega) only [z_nI, z_lit, z_neg, z_add, z_sub, z_mul, z_lt, z_le, z_eq, z_in, z_cl]; omega)
  by_cases c2 : y = p + 1
  · rw [if_pos c2] at k
    have g2 : (nI y = nI p + 1) = True := eq_true (by rw [c2, nI_1])
    clear hf hq15 hp hy
    refine MW.run1 gd_X7_goOne [12, 244] 60 ?_
    simp (disch := omega) only [↓EVj, ↓w_if_eq, ↓EVc, ↓ft_X7_goOne, ↓reduceIte, ↓EV_obs, ↓EV_obn, ↓EV_ais, ↓EV_ain, ↓EV_ob h0, ↓EV_ai a2, mdF, mRun, List.mem_cons, List.not_mem_nil, or_false, mtab_eq, Nat.reduceEqDiff, Nat.zero_add, hee, ve, hK, b02, b12, b20, b01, b21, b10, b11, blm, mset2, b10, b00, not_true_eq_false, not_false_eq_true, true_implies, false_implies, implies_true, and_true, true_and, Nat.le_refl, true_or, or_true, eq_self, List.length_cons, List.length_nil, Nat.reduceAdd, Nat.reduceLT, Nat.reduceLeDiff]
    refine MW.run1 gd_X7_goOne [12] 60 ?_
    simp (disch := omega) only [↓EVj, ↓w_if_eq, ↓EVc, ↓ft_X7_goOne, ↓reduceIte, ↓EV_obs, ↓EV_obn, ↓EV_ais, ↓EV_ain, ↓EV_ob h0, ↓EV_ai a2, mdF, mRun, List.mem_cons, List.not_mem_nil, or_false, mtab_eq, Nat.reduceEqDiff, Nat.zero_add, hee, ve, hK, g1, g2, b02, b12, b20, b01, b21, b10, b11, blm, mset2, b10, b00, not_true_eq_false, not_false_eq_true, true_implies, false_implies, implies_true, and_true, true_and, Nat.le_refl, true_or, or_true, eq_self, List.length_cons, List.length_nil, Nat.reduceAdd, Nat.reduceLT, Nat.reduceLeDiff]
    exact k
  rw [if_neg c2] at k
  have g2 : (nI y = nI p + 1) = False := eq_false (by simp (disch := omega) only [z_nI, z_lit, z_neg, z_add, z_sub, z_mul, z_lt, z_le, z_eq, z_in, z_cl]; omega)
  clear hf hq15 hp hy
  refine MW.run1 gd_X7_goOne [12, 244] 60 ?_
  simp (disch := omega) only [↓EVj, ↓w_if_eq, ↓EVc, ↓ft_X7_goOne, ↓reduceIte, ↓EV_obs, ↓EV_obn, ↓EV_ais, ↓EV_ain, ↓EV_ob h0, ↓EV_ai a2, mdF, mRun, List.mem_cons, List.not_mem_nil, or_false, mtab_eq, Nat.reduceEqDiff, Nat.zero_add, hee, ve, hK, b02, b12, b20, b01, b21, b10, b11, blm, mset2, b10, b00, not_true_eq_false, not_false_eq_true, true_implies, false_implies, implies_true, and_true, true_and, Nat.le_refl, true_or, or_true, eq_self, List.length_cons, List.length_nil, Nat.reduceAdd, Nat.reduceLT, Nat.reduceLeDiff]
  refine MW.run1 gd_X7_goOne [12] 60 ?_
  simp (disch := omega) only [↓EVj, ↓w_if_eq, ↓EVc, ↓ft_X7_goOne, ↓reduceIte, ↓EV_obs, ↓EV_obn, ↓EV_ais, ↓EV_ain, ↓EV_ob h0, ↓EV_ai a2, mdF, mRun, List.mem_cons, List.not_mem_nil, or_false, mtab_eq, Nat.reduceEqDiff, Nat.zero_add, hee, ve, hK, g1, g2, b02, b12, b20, b01, b21, b10, b11, blm, mset2, b10, b00, not_true_eq_false, not_false_eq_true, true_implies, false_implies, implies_true, and_true, true_and, Nat.le_refl, true_or, or_true, eq_self, List.length_cons, List.length_nil, Nat.reduceAdd, Nat.reduceLT, Nat.reduceLeDiff]
  exact k
set_option maxRecDepth 10000 in
theorem go_nL2 {X ee : Int32} {p e y : Nat} (hM : ModelC h G M v a) (hf : f < 8) (hq : v 24 = nI q) (hq15 : q < 15) (hp : p < 20) (hy : y < 20) (hee : ee.toNatClampNeg = e) (ve : vp_in ee 240) (hK : a 2 e = 2)
    (k : MW G MX7_goOne (mz G d 0 0 post) 12 [some (.ref M), some (.int (nI f)), some (.int i0), some (.int j0), some (.int (X + -1)), some (.int (nI (if p ≤ y then y + 2 else y))), some (.int (-1)), some (.int (l)), some (.int ee), some (.int (nI p)), some (.int 0), x11] [] h (N, 0, 0)) : MW G MX7_goOne (mz G d 0 0 post) 119 [some (.ref M), some (.int (nI f)), some (.int i0), some (.int j0), some (.int (X)), some (.int (nI y)), some (.int (-1)), some (.int (l)), some (.int ee), some (.int (nI p)), some (.int 0), x11] [] h (N, 0, 0) := by
  have h0 := hM.1
  have a2 : h (M + 2) = some (.inl (gC G 0, 240, .inl (a 2))) := hM.2 2 (by decide) (by decide)
  by_cases c1 : p ≤ y
  · rw [if_pos c1, show nI (y + 2) = nI y + 2 from (nI_add y 2).symm] at k
    have g1 : (nI y < nI p) = False := eq_false (by simp (disch := omega) only [z_nI, z_lit, z_neg, z_add, z_sub, z_mul, z_lt, z_le, z_eq, z_in, z_cl]; omega)
    clear hf hq15 hp hy
    refine MW.run1 gd_X7_goOne [12, 244] 60 ?_
    simp (disch := omega) only [↓EVj, ↓w_if_eq, ↓EVc, ↓ft_X7_goOne, ↓reduceIte, ↓EV_obs, ↓EV_obn, ↓EV_ais, ↓EV_ain, ↓EV_ob h0, ↓EV_ai a2, mdF, mRun, List.mem_cons, List.not_mem_nil, or_false, mtab_eq, Nat.reduceEqDiff, Nat.zero_add, hee, ve, hK, b02, b12, b20, b01, b21, b10, b11, blm, mset2, b10, b00, not_true_eq_false, not_false_eq_true, true_implies, false_implies, implies_true, and_true, true_and, Nat.le_refl, true_or, or_true, eq_self, List.length_cons, List.length_nil, Nat.reduceAdd, Nat.reduceLT, Nat.reduceLeDiff]
    refine MW.run1 gd_X7_goOne [12] 60 ?_
    simp (disch := omega) only [↓EVj, ↓w_if_eq, ↓EVc, ↓ft_X7_goOne, ↓reduceIte, ↓EV_obs, ↓EV_obn, ↓EV_ais, ↓EV_ain, ↓EV_ob h0, ↓EV_ai a2, mdF, mRun, List.mem_cons, List.not_mem_nil, or_false, mtab_eq, Nat.reduceEqDiff, Nat.zero_add, hee, ve, hK, g1, b02, b12, b20, b01, b21, b10, b11, blm, mset2, b10, b00, not_true_eq_false, not_false_eq_true, true_implies, false_implies, implies_true, and_true, true_and, Nat.le_refl, true_or, or_true, eq_self, List.length_cons, List.length_nil, Nat.reduceAdd, Nat.reduceLT, Nat.reduceLeDiff]
    exact k
  · rw [if_neg c1, show nI y = nI y + 0 from (nI_add y 0).symm] at k
    have g1 : (nI y < nI p) = True := eq_true (by simp (disch := omega) only [z_nI, z_lit, z_neg, z_add, z_sub, z_mul, z_lt, z_le, z_eq, z_in, z_cl]; omega)
    clear hf hq15 hp hy
    refine MW.run1 gd_X7_goOne [12, 244] 60 ?_
    simp (disch := omega) only [↓EVj, ↓w_if_eq, ↓EVc, ↓ft_X7_goOne, ↓reduceIte, ↓EV_obs, ↓EV_obn, ↓EV_ais, ↓EV_ain, ↓EV_ob h0, ↓EV_ai a2, mdF, mRun, List.mem_cons, List.not_mem_nil, or_false, mtab_eq, Nat.reduceEqDiff, Nat.zero_add, hee, ve, hK, b02, b12, b20, b01, b21, b10, b11, blm, mset2, b10, b00, not_true_eq_false, not_false_eq_true, true_implies, false_implies, implies_true, and_true, true_and, Nat.le_refl, true_or, or_true, eq_self, List.length_cons, List.length_nil, Nat.reduceAdd, Nat.reduceLT, Nat.reduceLeDiff]
    refine MW.run1 gd_X7_goOne [12] 60 ?_
    simp (disch := omega) only [↓EVj, ↓w_if_eq, ↓EVc, ↓ft_X7_goOne, ↓reduceIte, ↓EV_obs, ↓EV_obn, ↓EV_ais, ↓EV_ain, ↓EV_ob h0, ↓EV_ai a2, mdF, mRun, List.mem_cons, List.not_mem_nil, or_false, mtab_eq, Nat.reduceEqDiff, Nat.zero_add, hee, ve, hK, g1, b02, b12, b20, b01, b21, b10, b11, blm, mset2, b10, b00, not_true_eq_false, not_false_eq_true, true_implies, false_implies, implies_true, and_true, true_and, Nat.le_refl, true_or, or_true, eq_self, List.length_cons, List.length_nil, Nat.reduceAdd, Nat.reduceLT, Nat.reduceLeDiff]
    exact k
end GOS
