/-! the model: what it tells of the ways -/
noncomputable def tM (es : List Ev) (a : Nat) : Mk := ((trT es).1 a).getD (0, true, 0)
noncomputable def loA (es : List Ev) (i : Nat) : Mk := tM es (arcF es i (evP es i))
noncomputable def upA (es : List Ev) (i : Nat) : Mk := tM es (arcF es i (evP es i + 1))
noncomputable def nP (es : List Ev) : Nat := (trT es).2.1
noncomputable def tU (es : List Ev) (q : Nat) : Nat := (trT es).2.2.2.1 q
noncomputable def tD (es : List Ev) (q : Nat) : Nat := (trT es).2.2.2.2 q
noncomputable def tF (es : List Ev) (q : Nat) : Nat := (trT es).2.2.1 q
noncomputable def plus (es : List Ev) (i : Nat) : Bool := (loA es i).2.1 == (upA es i).2.1
/-- PLUS less MINUS of the first n events' crosses of these pieces -/
noncomputable def sgM (es : List Ev) (p q : Nat) : Nat → Int
  | 0 => 0
  | i + 1 => sgM es p q i + (if evK es i = 1 ∧ (((loA es i).1 = p ∧ (upA es i).1 = q) ∨ ((loA es i).1 = q ∧ (upA es i).1 = p)) then (if plus es i = true then 1 else -1) else 0)
noncomputable def dtM (es : List Ev) (p : Nat) : Nat → Nat
  | 0 => 0
  | i + 1 => dtM es p i + (if evK es i = 2 ∧ (loA es i).1 = p then 1 else 0)
def dthC (es : List Ev) : Nat → Nat
  | 0 => 0
  | i + 1 => dthC es i + (if evK es i = 2 then 1 else 0)
noncomputable def plsC (es : List Ev) : Nat → Nat
  | 0 => 0
  | i + 1 => plsC es i + (if evK es i = 1 ∧ plus es i = true then 1 else 0)
def mstC (es : List Ev) : Nat → Nat
  | 0 => 0
  | i + 1 => if mstC es i < aN es i then aN es i else mstC es i
theorem trT_ok {es : List Ev} (hw : whl es) : ∀ a, a < nA es → ((trT es).1 a).isSome = true := (trc_ok hw (bth es es.length) (Nat.le_refl _)).2.2
theorem nP_le {es : List Ev} (hw : whl es) : nP es ≤ 15 := by
  have h := (trc_ok hw (bth es es.length) (Nat.le_refl _)).2.1
  have h2 := cnt_le (trc es (bth es es.length)).1 (nA es)
  have h3 := bth_le hw
  unfold nA at h2
  unfold nP trT
  unfold nA at h
  omega
theorem arc_nA {es : List Ev} (hw : whl es) {x y : Nat} (hx : x ≤ es.length) (hy : y < aN es x) : arcF es x y < nA es := by
  have h1 := arc_lt hw.1 x y hx hy
  have h2 := bth_mono (es := es) x es.length hx (Nat.le_refl _)
  unfold nA
  omega
theorem tr_at {es : List Ev} (hw : whl es) {v : Nat → Int32} {a : Nat → Nat → Int32} (ht : trR es (trT es) v a) {x y : Nat} (hx : x ≤ es.length) (hy : y < aN es x) : a 10 (10 * x + y) = nI (tM es (arcF es x y)).1 ∧ a 11 (10 * x + y) = (if (tM es (arcF es x y)).2.1 = true then 1 else -1) ∧ a 12 (10 * x + y) = zI (tM es (arcF es x y)).2.2 ∧ (tM es (arcF es x y)).1 < nP es := by
  obtain ⟨m, hm⟩ := Option.isSome_iff_exists.mp (trT_ok hw _ (arc_nA hw hx hy))
  have z : gAt a (10 * x + y) ((trT es).1 (arcF es x y)) := ht.1 x y hx hy
  have e : tM es (arcF es x y) = m := by unfold tM; rw [hm]; rfl
  rw [hm] at z
  rw [e]
  exact ⟨z.1, z.2.1, z.2.2, ht.2.2.2 _ m hm⟩
theorem trR_congr {es : List Ev} {s : TS} {v v' : Nat → Int32} {a a' : Nat → Nat → Int32} (h : trR es s v a) (hv : v' 24 = v 24) (ha : ∀ k, 10 ≤ k ∧ k ≤ 15 → a' k = a k) : trR es s v' a' := by
  obtain ⟨h1, h2, h3, h4⟩ := h
  refine ⟨fun x y hx hy => ?_, by rw [hv]; exact h2, fun j hj => ?_, h4⟩
  · have z := h1 x y hx hy
    revert z
    show gAt a (10 * x + y) (s.1 (arcF es x y)) → gAt a' (10 * x + y) (s.1 (arcF es x y))
    unfold gAt
    rw [ha 10 (by decide), ha 11 (by decide), ha 12 (by decide)]
    exact id
  · rw [ha 13 (by decide), ha 14 (by decide), ha 15 (by decide)]
    exact h3 j hj
section GOS
variable {G : mG} {d N M f : Nat} {es : List Ev} {post : Option Value → mH → Prop} {v : Nat → Int32} {a : Nat → Nat → Int32} {h : mH}
set_option maxRecDepth 10000 in
theorem m_isPlus {i : Nat} (hw : whl es) (hs : slotR a f es) (hf : f < 8) (ht : trR es (trT es) v a) (hM : ModelC h G M v a) (hi : i < es.length) (hK : evK es i = 1) (hp : post (some (.int (if plus es i = true then 1 else 0))) h) : MC G MX7_isPlus d 0 0 [.ref M, .int (nI f), .int (nI i)] h N post := by
  have h0 := hM.1
  have a3 : h (M + 3) = some (.inl (gC G 0, 240, .inl (a 3))) := hM.2 3 (by decide) (by decide)
  have a11 : h (M + 11) = some (.inl (gC G 0, 310, .inl (a 11))) := hM.2 11 (by decide) (by decide)
  have b30 := (vld_bd hw.1).1
  have ho := (ev_ok hw.1 hi).2.2.2.1 hK
  have h10 := (ev_ok hw.1 hi).2.1
  have hP := (hs.2 i hi).2
  have t1 := (tr_at hw ht (x := i) (y := evP es i) (by omega) (by omega)).2.1
  have t2 := (tr_at hw ht (x := i) (y := evP es i + 1) (by omega) (by omega)).2.1
  have hce : (30 * nI f + nI i).toNatClampNeg = 30 * f + i := by simp (disch := omega) only [z_nI, z_lit, z_neg, z_add, z_sub, z_mul, z_lt, z_le, z_eq, z_in, z_cl]; omega
  have ve : vp_in (30 * nI f + nI i) 240 := by simp (disch := omega) only [z_nI, z_lit, z_neg, z_add, z_sub, z_mul, z_lt, z_le, z_eq, z_in, z_cl]; omega
  have c1 : (10 * nI i + nI (evP es i)).toNatClampNeg = 10 * i + evP es i := by simp (disch := omega) only [z_nI, z_lit, z_neg, z_add, z_sub, z_mul, z_lt, z_le, z_eq, z_in, z_cl]; omega
  have v1 : vp_in (10 * nI i + nI (evP es i)) 310 := by simp (disch := omega) only [z_nI, z_lit, z_neg, z_add, z_sub, z_mul, z_lt, z_le, z_eq, z_in, z_cl]; omega
  have c2 : (10 * nI i + nI (evP es i) + 1).toNatClampNeg = 10 * i + (evP es i + 1) := by simp (disch := omega) only [z_nI, z_lit, z_neg, z_add, z_sub, z_mul, z_lt, z_le, z_eq, z_in, z_cl]; omega
  have v2 : vp_in (10 * nI i + nI (evP es i) + 1) 310 := by simp (disch := omega) only [z_nI, z_lit, z_neg, z_add, z_sub, z_mul, z_lt, z_le, z_eq, z_in, z_cl]; omega
  have key : ((if (tM es (arcF es i (evP es i))).2.1 = true then (1 : Int32) else -1) = (if (tM es (arcF es i (evP es i + 1))).2.1 = true then 1 else -1)) ↔ plus es i = true := by
    unfold plus loA upA
    rw [beq_iff_eq]
    cases (tM es (arcF es i (evP es i))).2.1 <;> cases (tM es (arcF es i (evP es i + 1))).2.1 <;> decide
  refine MC.of (L0 := [some (.ref M), some (.int (nI f)), some (.int (nI i)), none]) gd_X7_isPlus (Nat.le_of_ble_eq_true rfl) rfl (MW.run gd_X7_isPlus [] 60 ?_)
  clear ho
  simp (disch := omega) only [↓EVi, ↓EVc, ↓ft_X7_isPlus, ↓reduceIte, ↓EV_obs, ↓EV_obn, ↓EV_ais, ↓EV_ain, ↓EV_ob h0, ↓EV_ai a3, ↓EV_ai a11, mdF, mRun, List.mem_cons, List.not_mem_nil, or_false, mtab_eq, Nat.reduceEqDiff, Nat.zero_add, hce, ve, c1, v1, c2, v2, hP, mset2, b10, b00, not_true_eq_false, not_false_eq_true, true_implies, false_implies, implies_true, and_true, true_and, Nat.le_refl, true_or, or_true, eq_self, List.length_cons, List.length_nil, Nat.reduceAdd, Nat.reduceLT, Nat.reduceLeDiff]
  rw [t1, t2]
  refine ⟨fun z => ?_, fun z => ?_⟩
  · rw [if_neg (fun q => z (key.mpr q))] at hp
    exact hp
  · rw [if_pos (key.mp (Classical.not_not.mp z))] at hp
    exact hp
set_option maxRecDepth 10000 in
theorem m_signed {p q : Nat} (hd : 1 ≤ d) (hw : whl es) (hs : slotR a f es) (hf : f < 8) (ht : trR es (trT es) v a) (hM : ModelC h G M v a) (hp15 : p < 15) (hq15 : q < 15) (hp : post (some (.int (zI (sgM es p q es.length)))) h) : MC G MX7_signed d 0 0 [.ref M, .int (nI f), .int (nI p), .int (nI q)] h N post := by
  have h0 := hM.1
  have a1 : h (M + 1) = some (.inl (gC G 0, 8, .inl (a 1))) := hM.2 1 (by decide) (by decide)
  have a2 : h (M + 2) = some (.inl (gC G 0, 240, .inl (a 2))) := hM.2 2 (by decide) (by decide)
  have a3 : h (M + 3) = some (.inl (gC G 0, 240, .inl (a 3))) := hM.2 3 (by decide) (by decide)
  have a10 : h (M + 10) = some (.inl (gC G 0, 310, .inl (a 10))) := hM.2 10 (by decide) (by decide)
  have b30 := (vld_bd hw.1).1
  have hcf : (nI f).toNatClampNeg = f := nI_clamp (by omega)
  have vf : vp_in (nI f) 8 := vp_in_nI hf (by decide)
  have hs1 := hs.1
  have hnP := nP_le hw
  refine MC.of (L0 := [some (.ref M), some (.int (nI f)), some (.int (nI p)), some (.int (nI q)), none, none, none, none, none]) gd_X7_signed (Nat.le_of_ble_eq_true rfl) rfl (MW.run gd_X7_signed [6] 20 ?_)
  simp (disch := omega) only [↓EVi, ↓EVc, ↓ft_X7_signed, ↓reduceIte, ↓EV_obs, ↓EV_obn, ↓EV_ais, ↓EV_ain, ↓EV_ob h0, mdF, mRun, List.mem_cons, List.not_mem_nil, or_false, mtab_eq, Nat.reduceEqDiff, Nat.zero_add, mset2, b10, b00, not_true_eq_false, not_false_eq_true, true_implies, false_implies, implies_true, and_true, true_and, Nat.le_refl, true_or, or_true, eq_self, List.length_cons, List.length_nil, Nat.reduceAdd, Nat.reduceLT, Nat.reduceLeDiff]
  refine MW.upto es.length (fun i L h' => ∃ x6 x7 x8, L = [some (.ref M), some (.int (nI f)), some (.int (nI p)), some (.int (nI q)), some (.int (zI (sgM es p q i))), some (.int (nI i)), x6, x7, x8] ∧ h' = h) ?_ ?_ 0 _ _ (Nat.zero_le _) ⟨none, none, none, rfl, rfl⟩
  · rintro i L h' hi ⟨x6, x7, x8, rfl, rfl⟩ ih
    have f1 : (nI es.length ≤ nI i) = False := eq_false (by simp (disch := omega) only [z_nI, z_lit, z_neg, z_add, z_sub, z_mul, z_lt, z_le, z_eq, z_in, z_cl]; omega)
    have hce : (30 * nI f + nI i).toNatClampNeg = 30 * f + i := by simp (disch := omega) only [z_nI, z_lit, z_neg, z_add, z_sub, z_mul, z_lt, z_le, z_eq, z_in, z_cl]; omega
    have ve : vp_in (30 * nI f + nI i) 240 := by simp (disch := omega) only [z_nI, z_lit, z_neg, z_add, z_sub, z_mul, z_lt, z_le, z_eq, z_in, z_cl]; omega
    obtain ⟨hK, hP⟩ := hs.2 i hi
    have sm := vld_sm hw.1 hi
    have nx : ∀ x6 x7 x8 (y : Int32), y = zI (sgM es p q (i + 1)) → MW G MX7_signed (mz G d 0 0 post) 6 [some (.ref M), some (.int (nI f)), some (.int (nI p)), some (.int (nI q)), some (.int y), some (.int (nI (i + 1))), x6, x7, x8] [] h' (N, 0, 0) := by
      intro x6 x7 x8 y hy
      subst hy
      exact ih _ _ ⟨x6, x7, x8, rfl, rfl⟩
    have es1 : sgM es p q (i + 1) = sgM es p q i + (if evK es i = 1 ∧ (((loA es i).1 = p ∧ (upA es i).1 = q) ∨ ((loA es i).1 = q ∧ (upA es i).1 = p)) then (if plus es i = true then 1 else -1) else 0) := rfl
    by_cases k1 : evK es i = 1
    case neg =>
      rw [if_neg (fun z => k1 z.1)] at es1
      have f2 : (nI (evK es i) = 1) = False := eq_false (fun z => k1 ((nI_eq (b := 1) (by omega) (by omega)).mp z))
      refine MW.run1 gd_X7_signed [6] 22 ?_
      simp (disch := omega) only [↓EVk, ↓w_if_eq, ↓w_an_ite, ↓mEndK, ↓w_retK0, ↓w_fitK, ↓w_dupK, ↓w_dup2K, w_an_back, ↓EVd, ↓ft_X7_signed, ↓reduceIte, ↓EV_obs, ↓EV_obn, ↓EV_ais, ↓EV_ain, ↓EV_ob h0, ↓EV_ai a1, ↓EV_ai a2, mdF, mRun, List.mem_cons, List.not_mem_nil, or_false, mtab_eq, Nat.reduceEqDiff, Nat.zero_add, hcf, vf, hs1, f1, hce, ve, hK, f2, mset2, b10, b00, not_true_eq_false, not_false_eq_true, true_implies, false_implies, implies_true, and_true, true_and, Nat.le_refl, true_or, or_true, eq_self, List.length_cons, List.length_nil, Nat.reduceAdd, Nat.reduceLT, Nat.reduceLeDiff]
      rw [nI_1]
      exact nx _ _ _ _ (by rw [es1, Int.add_zero])
    have f2 : (nI (evK es i) = 1) = True := eq_true (by rw [k1]; rfl)
    have ho := (ev_ok hw.1 hi).2.2.2.1 k1
    have h10 := (ev_ok hw.1 hi).2.1
    obtain ⟨t1, -, -, t1'⟩ := tr_at hw ht (x := i) (y := evP es i) (by omega) (by omega)
    obtain ⟨t2, -, -, t2'⟩ := tr_at hw ht (x := i) (y := evP es i + 1) (by omega) (by omega)
    have c1 : (10 * nI i + nI (evP es i)).toNatClampNeg = 10 * i + evP es i := by simp (disch := omega) only [z_nI, z_lit, z_neg, z_add, z_sub, z_mul, z_lt, z_le, z_eq, z_in, z_cl]; omega
    have v1 : vp_in (10 * nI i + nI (evP es i)) 310 := by simp (disch := omega) only [z_nI, z_lit, z_neg, z_add, z_sub, z_mul, z_lt, z_le, z_eq, z_in, z_cl]; omega
    have c2 : (10 * nI i + nI (evP es i) + 1).toNatClampNeg = 10 * i + (evP es i + 1) := by simp (disch := omega) only [z_nI, z_lit, z_neg, z_add, z_sub, z_mul, z_lt, z_le, z_eq, z_in, z_cl]; omega
    have v2 : vp_in (10 * nI i + nI (evP es i) + 1) 310 := by simp (disch := omega) only [z_nI, z_lit, z_neg, z_add, z_sub, z_mul, z_lt, z_le, z_eq, z_in, z_cl]; omega
    have q1 : ∀ w, w < 15 → ((nI (tM es (arcF es i (evP es i))).1 = nI w) ↔ (loA es i).1 = w) := fun w hw' => nI_eq (by omega) (by omega)
    have q2 : ∀ w, w < 15 → ((nI (tM es (arcF es i (evP es i + 1))).1 = nI w) ↔ (upA es i).1 = w) := fun w hw' => nI_eq (by omega) (by omega)
    have add : (((loA es i).1 = p ∧ (upA es i).1 = q) ∨ ((loA es i).1 = q ∧ (upA es i).1 = p)) → ∀ x6 x7 x8, MW G MX7_signed (mz G d 0 0 post) 103 [some (.ref M), some (.int (nI f)), some (.int (nI p)), some (.int (nI q)), some (.int (zI (sgM es p q i))), some (.int (nI i)), x6, some (.int x7), some (.int x8)] [] h' (N, 0, 0) := by
      intro z x6 x7 x8
      rw [if_pos ⟨k1, z⟩] at es1
      refine MW.run1 gd_X7_signed [6] 60 ?_
      simp (disch := omega) only [↓EVk, ↓w_if_eq, ↓w_an_ite, ↓mEndK, ↓w_retK0, ↓w_fitK, ↓w_dupK, ↓w_dup2K, w_an_back, ↓EVd, ↓ft_X7_signed, ↓reduceIte, ↓EV_obs, ↓EV_obn, ↓EV_ais, ↓EV_ain, ↓EV_ob h0, mdF, mRun, List.mem_cons, List.not_mem_nil, or_false, mtab_eq, Nat.reduceEqDiff, Nat.zero_add, hd, mset2, b10, b00, not_true_eq_false, not_false_eq_true, true_implies, false_implies, implies_true, and_true, true_and, Nat.le_refl, true_or, or_true, eq_self, List.length_cons, List.length_nil, Nat.reduceAdd, Nat.reduceLT, Nat.reduceLeDiff]
      refine m_isPlus hw hs hf ht hM hi k1 ?_
      cases hpl : plus es i with
      | true =>
        rw [hpl] at es1
        simp only [↓reduceIte] at es1
        simp only [↓reduceIte]
        simp (disch := omega) only [↓EVk, ↓w_if_eq, ↓w_an_ite, ↓mEndK, ↓w_retK0, ↓w_fitK, ↓w_dupK, ↓w_dup2K, w_an_back, ↓EVd, ↓ft_X7_signed, ↓reduceIte, ↓EV_obs, ↓EV_obn, ↓EV_ais, ↓EV_ain, ↓EV_ob h0, mdF, mRun, List.mem_cons, List.not_mem_nil, or_false, mtab_eq, Nat.reduceEqDiff, Nat.zero_add, hd, mset2, b10, b00, not_true_eq_false, not_false_eq_true, true_implies, false_implies, implies_true, and_true, true_and, Nat.le_refl, true_or, or_true, eq_self, List.length_cons, List.length_nil, Nat.reduceAdd, Nat.reduceLT, Nat.reduceLeDiff]
        rw [nI_1]
        exact nx _ _ _ _ (by rw [es1]; exact zI_up _)
      | false =>
        rw [hpl] at es1
        simp only [Bool.false_eq_true, ↓reduceIte] at es1
        simp only [Bool.false_eq_true, ↓reduceIte]
        simp (disch := omega) only [↓EVk, ↓w_if_eq, ↓w_an_ite, ↓mEndK, ↓w_retK0, ↓w_fitK, ↓w_dupK, ↓w_dup2K, w_an_back, ↓EVd, ↓ft_X7_signed, ↓reduceIte, ↓EV_obs, ↓EV_obn, ↓EV_ais, ↓EV_ain, ↓EV_ob h0, mdF, mRun, List.mem_cons, List.not_mem_nil, or_false, mtab_eq, Nat.reduceEqDiff, Nat.zero_add, hd, mset2, b10, b00, not_true_eq_false, not_false_eq_true, true_implies, false_implies, implies_true, and_true, true_and, Nat.le_refl, true_or, or_true, eq_self, List.length_cons, List.length_nil, Nat.reduceAdd, Nat.reduceLT, Nat.reduceLeDiff]
        rw [nI_1]
        exact nx _ _ _ _ (by rw [es1]; exact zI_dn _)
    have no : ¬ (((loA es i).1 = p ∧ (upA es i).1 = q) ∨ ((loA es i).1 = q ∧ (upA es i).1 = p)) → ∀ x6 x7 x8, MW G MX7_signed (mz G d 0 0 post) 123 [some (.ref M), some (.int (nI f)), some (.int (nI p)), some (.int (nI q)), some (.int (zI (sgM es p q i))), some (.int (nI i)), x6, some (.int x7), some (.int x8)] [] h' (N, 0, 0) := by
      intro z x6 x7 x8
      rw [if_neg (fun y => z y.2)] at es1
      refine MW.run1 gd_X7_signed [6] 60 ?_
      simp (disch := omega) only [↓EVk, ↓w_if_eq, ↓w_an_ite, ↓mEndK, ↓w_retK0, ↓w_fitK, ↓w_dupK, ↓w_dup2K, w_an_back, ↓EVd, ↓ft_X7_signed, ↓reduceIte, ↓EV_obs, ↓EV_obn, ↓EV_ais, ↓EV_ain, ↓EV_ob h0, mdF, mRun, List.mem_cons, List.not_mem_nil, or_false, mtab_eq, Nat.reduceEqDiff, Nat.zero_add, hd, mset2, b10, b00, not_true_eq_false, not_false_eq_true, true_implies, false_implies, implies_true, and_true, true_and, Nat.le_refl, true_or, or_true, eq_self, List.length_cons, List.length_nil, Nat.reduceAdd, Nat.reduceLT, Nat.reduceLeDiff]
      rw [nI_1]
      exact nx _ _ _ _ (by rw [es1, Int.add_zero])
    clear ho nx ih
    refine MW.run1 gd_X7_signed [6, 79] 60 ?_
    simp (disch := omega) only [↓EVk, ↓w_if_eq, ↓w_an_ite, ↓mEndK, ↓w_retK0, ↓w_fitK, ↓w_dupK, ↓w_dup2K, w_an_back, ↓EVd, ↓ft_X7_signed, ↓reduceIte, ↓EV_obs, ↓EV_obn, ↓EV_ais, ↓EV_ain, ↓EV_ob h0, ↓EV_ai a1, ↓EV_ai a2, ↓EV_ai a3, ↓EV_ai a10, mdF, mRun, List.mem_cons, List.not_mem_nil, or_false, mtab_eq, Nat.reduceEqDiff, Nat.zero_add, hcf, vf, hs1, f1, hce, ve, hK, hP, f2, c1, v1, c2, v2, t1, t2, mset2, b10, b00, not_true_eq_false, not_false_eq_true, true_implies, false_implies, implies_true, and_true, true_and, Nat.le_refl, true_or, or_true, eq_self, List.length_cons, List.length_nil, Nat.reduceAdd, Nat.reduceLT, Nat.reduceLeDiff]
    refine MW.run1 gd_X7_signed [6, 103, 123] 60 ?_
    simp (disch := omega) only [↓EVi, ↓EVc, ↓ft_X7_signed, ↓reduceIte, ↓EV_obs, ↓EV_obn, ↓EV_ais, ↓EV_ain, ↓EV_ob h0, mdF, mRun, List.mem_cons, List.not_mem_nil, or_false, mtab_eq, Nat.reduceEqDiff, Nat.zero_add, mset2, b10, b00, not_true_eq_false, not_false_eq_true, true_implies, false_implies, implies_true, and_true, true_and, Nat.le_refl, true_or, or_true, eq_self, List.length_cons, List.length_nil, Nat.reduceAdd, Nat.reduceLT, Nat.reduceLeDiff]
    refine ⟨fun z1 => ⟨fun z2 => no (fun y => ?_) _ _ _, fun z2 => ⟨fun z3 => no (fun y => ?_) _ _ _, fun z3 => add (Or.inr ⟨(q1 q hq15).mp (Classical.not_not.mp z2), (q2 p hp15).mp (Classical.not_not.mp z3)⟩) _ _ _⟩⟩, fun z1 => ⟨fun z2 => add (Or.inl ⟨(q1 p hp15).mp (Classical.not_not.mp z1), (q2 q hq15).mp z2⟩) _ _ _, fun z2 => ⟨fun z3 => no (fun y => ?_) _ _ _, fun z3 => ⟨fun z4 => no (fun y => ?_) _ _ _, fun z4 => add (Or.inr ⟨(q1 q hq15).mp (Classical.not_not.mp z3), (q2 p hp15).mp (Classical.not_not.mp z4)⟩) _ _ _⟩⟩⟩⟩
    · rcases y with y | y
      · exact z1 ((q1 p hp15).mpr y.1)
      · exact z2 ((q1 q hq15).mpr y.1)
    · rcases y with y | y
      · exact z1 ((q1 p hp15).mpr y.1)
      · exact z3 ((q2 p hp15).mpr y.2)
    · rcases y with y | y
      · exact z2 ((q2 q hq15).mpr y.2)
      · exact z3 ((q1 q hq15).mpr y.1)
    · rcases y with y | y
      · exact z2 ((q2 q hq15).mpr y.2)
      · exact z4 ((q2 p hp15).mpr y.2)
  · rintro L h' ⟨x6, x7, x8, rfl, rfl⟩
    have f1 : (nI es.length ≤ nI es.length) = True := eq_true (nI_le (Nat.le_refl _) (by omega))
    refine MW.run1 gd_X7_signed [6] 22 ?_
    simp (disch := omega) only [↓EVk, ↓w_if_eq, ↓w_an_ite, ↓mEndK, ↓w_retK0, ↓w_fitK, ↓w_dupK, ↓w_dup2K, w_an_back, ↓EVd, ↓ft_X7_signed, ↓reduceIte, ↓EV_obs, ↓EV_obn, ↓EV_ais, ↓EV_ain, ↓EV_ob h0, ↓EV_ai a1, mdF, mRun, List.mem_cons, List.not_mem_nil, or_false, mtab_eq, Nat.reduceEqDiff, Nat.zero_add, hcf, vf, hs1, f1, mset2, b10, b00, not_true_eq_false, not_false_eq_true, true_implies, false_implies, implies_true, and_true, true_and, Nat.le_refl, true_or, or_true, eq_self, List.length_cons, List.length_nil, Nat.reduceAdd, Nat.reduceLT, Nat.reduceLeDiff]
    exact hp
end GOS
