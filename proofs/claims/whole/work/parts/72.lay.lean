/-! Ways: the arcs laid -/
section WYL
variable {h : mH} {G : mG} {W wo : Nat} {ac pc : Int32} {R a : Nat → Nat → Int32} {d N : Nat} {post : Option Value → mH → Prop}
set_option maxRecDepth 10000 in
theorem w_beginArcs {i r k c : Nat} (hW : WaysC h G W wo (nI (2 * c)) pc R a) (hc : c < 15) (hr : r < 31) (hk : k + 2 ≤ 10)
    (hp : ∀ h', WaysC h' G W wo (nI (2 * (c + 1))) pc (aset R r (upd (upd (R r) k (nI (2 * c))) (k + 1) (nI (2 * c + 1)))) (aset a 0 (upd (upd (a 0) (2 * c) (nI i)) (2 * c + 1) (nI i))) → mKeep h h' W (W + 45) → post none h') : MC G MX5_beginArcs d 0 0 [.ref W, .int (nI i), .ref (W + 6 + r), .int (nI k)] h N post := by
  have h0 := hW.1
  have rr := hW.2.2.1 r hr
  have a0 : h (W + 37) = some (.inl (gC G 0, 30, .inl (a 0))) := hW.2.2.2 0 (by decide)
  have c1 : (nI k).toNatClampNeg = k := nI_clamp (by omega)
  have c2 : (nI k + 1).toNatClampNeg = k + 1 := by rw [nI_1]; exact nI_clamp (by omega)
  have c3 : (nI (2 * c)).toNatClampNeg = 2 * c := nI_clamp (by omega)
  have c4 : (nI (2 * c) + 1).toNatClampNeg = 2 * c + 1 := by rw [nI_1]; exact nI_clamp (by omega)
  have v1 : vp_in (nI k) 10 := vp_in_nI (by omega) (by decide)
  have v2 : vp_in (nI k + 1) 10 := by rw [nI_1]; exact vp_in_nI (by omega) (by decide)
  have v3 : vp_in (nI (2 * c)) 30 := vp_in_nI (by omega) (by decide)
  have v4 : vp_in (nI (2 * c) + 1) 30 := by rw [nI_1]; exact vp_in_nI (by omega) (by decide)
  refine MC.of (L0 := [some (.ref W), some (.int (nI i)), some (.ref (W + 6 + r)), some (.int (nI k))]) gd_X5_beginArcs (Nat.le_of_ble_eq_true rfl) rfl (MW.run gd_X5_beginArcs [] 40 ?_)
  simp (disch := omega) only [↓EVi, ↓EVc, ↓ft_X5_beginArcs, ↓reduceIte, ↓EV_obs, ↓EV_obn, ↓EV_ais, ↓EV_ain, ↓EV_ob h0, ↓EV_ai rr, ↓EV_ai a0, mdF, mRun, List.mem_cons, List.not_mem_nil, or_false, mtab_eq, Nat.reduceEqDiff, Nat.zero_add, c1, c2, c3, c4, v1, v2, v3, v4, mset2, b10, b00, not_true_eq_false, not_false_eq_true, true_implies, false_implies, implies_true, and_true, true_and, Nat.le_refl, true_or, or_true, eq_self, List.length_cons, List.length_nil, Nat.reduceAdd, Nat.reduceLT, Nat.reduceLeDiff]
  rw [nI_1, show nI (2 * c) + 2 = nI (2 * (c + 1)) from by simp (disch := omega) only [z_nI, z_lit, z_neg, z_add, z_sub, z_mul, z_lt, z_le, z_eq, z_in, z_cl]; congr 1]
  refine hp _ (WaysC_v (WaysC_a (k := 0) (WaysC_R hW hr) (by decide))) (fun z hz => by simp (disch := omega) only [mset_ne])
set_option maxRecDepth 10000 in
theorem w_endArcs {lo up : Nat} (hW : WaysC h G W wo ac pc R a) (h1 : lo < 30) (h2 : up < 30)
    (hp : ∀ h', WaysC h' G W wo ac pc R (aset (aset a 1 (upd (upd (a 1) lo (nI up)) up (nI lo))) 2 (upd (upd (a 2) lo 0) up 1)) → mKeep h h' W (W + 45) → post none h') : MC G MX5_endArcs d 0 0 [.ref W, .int (nI lo), .int (nI up)] h N post := by
  have h0 := hW.1
  have a1 : h (W + 38) = some (.inl (gC G 0, 30, .inl (a 1))) := hW.2.2.2 1 (by decide)
  have a2 : h (W + 39) = some (.inl (gC G 2, 30, .inl (a 2))) := hW.2.2.2 2 (by decide)
  have c1 : (nI lo).toNatClampNeg = lo := nI_clamp (by omega)
  have c2 : (nI up).toNatClampNeg = up := nI_clamp (by omega)
  have v1 : vp_in (nI lo) 30 := vp_in_nI (by omega) (by decide)
  have v2 : vp_in (nI up) 30 := vp_in_nI (by omega) (by decide)
  refine MC.of (L0 := [some (.ref W), some (.int (nI lo)), some (.int (nI up))]) gd_X5_endArcs (Nat.le_of_ble_eq_true rfl) rfl (MW.run gd_X5_endArcs [] 34 ?_)
  simp (disch := omega) only [↓EVi, ↓EVc, ↓ft_X5_endArcs, ↓reduceIte, ↓EV_obs, ↓EV_obn, ↓EV_ais, ↓EV_ain, ↓EV_ob h0, ↓EV_ai a1, ↓EV_ai a2, mdF, mRun, List.mem_cons, List.not_mem_nil, or_false, mtab_eq, Nat.reduceEqDiff, Nat.zero_add, c1, c2, v1, v2, nar01.1, nar01.2, mset2, b10, b00, not_true_eq_false, not_false_eq_true, true_implies, false_implies, implies_true, and_true, true_and, Nat.le_refl, true_or, or_true, eq_self, List.length_cons, List.length_nil, Nat.reduceAdd, Nat.reduceLT, Nat.reduceLeDiff]
  refine hp _ (WaysC_a (k := 2) (WaysC_a (k := 1) hW (by decide)) (by decide)) (fun z hz => by simp (disch := omega) only [mset_ne])
theorem aset_aset {b : Nat → Nat → Int32} {k : Nat} {f g : Nat → Int32} : aset (aset b k f) k g = aset b k g := by
  funext j
  unfold aset
  by_cases c : j = k
  · rw [if_pos c, if_pos c]
  · rw [if_neg c, if_neg c, if_neg c]
theorem aset_at {b : Nat → Nat → Int32} {k : Nat} {f : Nat → Int32} : aset b k f k = f := if_pos rfl
/-- what is laid ahead of event x -/
def layI (es : List Ev) (x : Nat) (R a : Nat → Nat → Int32) : Prop := (∀ i, i ≤ x → ∀ y, y < aN es i → R i y = nI (arcF es i y)) ∧ (∀ j, j < bth es x → a 0 (2 * j) = nI (bE es j) ∧ a 0 (2 * j + 1) = nI (bE es j)) ∧ ∀ x' c, x' < x → ends es x' c → a 1 c = nI (mt es c) ∧ a 2 c = (if ab es c = true then 1 else 0)
theorem layI_0 {es : List Ev} : layI es 0 R a := ⟨fun i hi y hy => by rw [Nat.le_zero.mp hi, aN_zero] at hy; omega, fun j hj => by rw [bth_zero] at hj; omega, fun x' c hx => absurd hx (Nat.not_lt_zero _)⟩
theorem layI_R {es : List Ev} {x : Nat} {f : Nat → Int32} (hI : ∀ i, i ≤ x → ∀ y, y < aN es i → R i y = nI (arcF es i y)) (hf : ∀ y, y < aN es (x + 1) → f y = nI (arcF es (x + 1) y)) : ∀ i, i ≤ x + 1 → ∀ y, y < aN es i → aset R (x + 1) f i y = nI (arcF es i y) := by
  intro i hi y hy
  unfold aset
  by_cases c : i = x + 1
  · subst c
    rw [if_pos rfl]
    exact hf y hy
  · rw [if_neg c]
    exact hI i (by omega) y hy
theorem layI_b {es : List Ev} {x : Nat} {f : Nat → Int32} (hx : x < es.length) (hk : evK es x = 0) (hI : layI es x R a) (hf : ∀ y, y < aN es (x + 1) → f y = nI (arcF es (x + 1) y)) : layI es (x + 1) (aset R (x + 1) f) (aset a 0 (upd (upd (a 0) (2 * bth es x) (nI x)) (2 * bth es x + 1) (nI x))) := by
  have hb := bth_succ (es := es) hx
  rw [if_pos hk] at hb
  refine ⟨layI_R hI.1 hf, fun j hj => ?_, fun x' c hx' he => ?_⟩
  · show upd (upd (a 0) (2 * bth es x) (nI x)) (2 * bth es x + 1) (nI x) (2 * j) = _ ∧ upd (upd (a 0) (2 * bth es x) (nI x)) (2 * bth es x + 1) (nI x) (2 * j + 1) = _
    by_cases c : j = bth es x
    · rw [c, pk_us, pk_un (by omega), pk_us, bE_eq ⟨hx, hk, rfl⟩]
      exact ⟨rfl, rfl⟩
    · rw [pk_un (by omega), pk_un (by omega), pk_un (by omega), pk_un (by omega)]
      exact hI.2.1 j (by omega)
  · have : x' < x := by
      rcases (by omega : x' < x ∨ x' = x) with z | z
      · exact z
      · have := he.2.1
        rw [z, hk] at this
        omega
    exact hI.2.2 x' c this he
theorem layI_c {es : List Ev} {x : Nat} {f : Nat → Int32} (hx : x < es.length) (hk : evK es x = 1) (hI : layI es x R a) (hf : ∀ y, y < aN es (x + 1) → f y = nI (arcF es (x + 1) y)) : layI es (x + 1) (aset R (x + 1) f) a := by
  have hb := bth_succ (es := es) hx
  rw [if_neg (by omega)] at hb
  refine ⟨layI_R hI.1 hf, fun j hj => hI.2.1 j (by omega), fun x' c hx' he => ?_⟩
  have : x' < x := by
    rcases (by omega : x' < x ∨ x' = x) with z | z
    · exact z
    · have := he.2.1
      rw [z, hk] at this
      omega
  exact hI.2.2 x' c this he
theorem layI_d {es : List Ev} {x lo up : Nat} {f : Nat → Int32} (hv : vld es) (hx : x < es.length) (hk : evK es x = 2) (hlo : lo = arcF es x (evP es x)) (hup : up = arcF es x (evP es x + 1)) (hI : layI es x R a) (hf : ∀ y, y < aN es (x + 1) → f y = nI (arcF es (x + 1) y)) : layI es (x + 1) (aset R (x + 1) f) (aset (aset a 1 (upd (upd (a 1) lo (nI up)) up (nI lo))) 2 (upd (upd (a 2) lo 0) up 1)) := by
  have hb := bth_succ (es := es) hx
  rw [if_neg (by omega)] at hb
  have ho := (ev_ok hv hx).2.2.2.2 hk
  have hne : lo ≠ up := fun z => by
    rw [hlo, hup] at z
    have := arc_inj hv x _ _ (by omega) (by omega) (by omega) z
    omega
  refine ⟨layI_R hI.1 hf, fun j hj => hI.2.1 j (by omega), fun x' c hx' he => ?_⟩
  show upd (upd (a 1) lo (nI up)) up (nI lo) c = _ ∧ upd (upd (a 2) lo 0) up 1 c = _
  rcases (by omega : x' < x ∨ x' = x) with z | z
  · have n1 : c ≠ lo := fun e => by
      have := ends_uniq hv he (x' := x) ⟨hx, hk, Or.inl (by rw [e, hlo])⟩
      omega
    have n2 : c ≠ up := fun e => by
      have := ends_uniq hv he (x' := x) ⟨hx, hk, Or.inr (by rw [e, hup])⟩
      omega
    rw [pk_un n2, pk_un n1, pk_un n2, pk_un n1]
    exact hI.2.2 x' c z he
  · subst z
    have e1 := mt_low hv hx hk
    have e2 := mt_up hv hx hk
    rw [← hlo, ← hup] at e1 e2
    rcases he.2.2 with q | q
    · rw [← hlo] at q
      subst q
      rw [pk_un hne, pk_us, pk_un hne, pk_us, e1.1, e1.2]
      exact ⟨rfl, rfl⟩
    · rw [← hup] at q
      subst q
      rw [pk_us, pk_us, e2.1, e2.2]
      exact ⟨rfl, rfl⟩
theorem layI_end {es : List Ev} (hw : whl es) (hI : layI es es.length R a) : arcD es a := by
  refine ⟨fun c hc => ?_, fun j hj => (hI.2.1 j hj).2⟩
  obtain ⟨x, hx⟩ := arc_ends hw hc
  exact hI.2.2 x c hx.1 hx
set_option maxRecDepth 10000 in
theorem w_layArcs {es : List Ev} (hd : 2 ≤ d) (hw : whl es) (hW : WaysC h G W wo ac pc R a) (hF : FrontR h G wo es) (ho : wo + 3 < W ∨ W + 45 < wo)
    (hp : ∀ h' R' a', WaysC h' G W wo (nI (nA es)) pc R' a' → layI es es.length R' a' → mKeep h h' W (W + 45) → post none h') : MC G MX5_layArcs d 0 0 [.ref W] h N post := by
  have hd1 : 1 ≤ d := by omega
  have h0 := hW.1
  have b30 := (vld_bd hw.1).1
  have hb15 := bth_le hw
  obtain ⟨hv, K, P, A, ⟨g0, g1, g2, g3⟩, hKP, hA⟩ := hF
  refine MC.of (L0 := [some (.ref W), none, none, none, none, none]) gd_X5_layArcs (Nat.le_of_ble_eq_true rfl) rfl (MW.run gd_X5_layArcs [7] 12 ?_)
  simp (disch := omega) only [↓EVi, ↓EVc, ↓ft_X5_layArcs, ↓reduceIte, ↓EV_obs, ↓EV_obn, ↓EV_ais, ↓EV_ain, ↓EV_ob h0, mdF, mRun, List.mem_cons, List.not_mem_nil, or_false, mtab_eq, Nat.reduceEqDiff, Nat.zero_add, mset2, b10, b00, not_true_eq_false, not_false_eq_true, true_implies, false_implies, implies_true, and_true, true_and, Nat.le_refl, true_or, or_true, eq_self, List.length_cons, List.length_nil, Nat.reduceAdd, Nat.reduceLT, Nat.reduceLeDiff]
  refine MW.upto es.length (fun x L h' => ∃ R' a' x2 x3 x4 x5, L = [some (.ref W), some (.int (nI x)), x2, x3, x4, x5] ∧ WaysC h' G W wo (nI (2 * bth es x)) pc R' a' ∧ layI es x R' a' ∧ mKeep h h' W (W + 45)) ?_ ?_ 0 _ _ (Nat.zero_le _) ⟨R, a, none, none, none, none, rfl, by rw [bth_zero]; exact WaysC_v hW, layI_0, fun z hz => mset_ne (by omega)⟩
  · rintro x L h' hx ⟨R', a', x2, x3, x4, x5, rfl, hW', hI, hk⟩ ih
    obtain ⟨k2, a10, e0, e1, e2⟩ := ev_ok hw.1 hx
    have q0 := hW'.1
    have q5 := hW'.2.1
    have rx := hW'.2.2.1 x (by omega)
    have ry := hW'.2.2.1 (x + 1) (by omega)
    have f0 : h' wo = some (.inr (0, [.ref (wo + 1), .ref (wo + 2), .ref (wo + 3), .int (nI es.length), .int (nI (crs es))])) := by rw [hk wo (by omega)]; exact g0
    have f1 : h' (wo + 1) = some (.inl (gC G 0, 30, .inl K)) := by rw [hk (wo + 1) (by omega)]; exact g1
    have f2 : h' (wo + 2) = some (.inl (gC G 0, 30, .inl P)) := by rw [hk (wo + 2) (by omega)]; exact g2
    have f3 : h' (wo + 3) = some (.inl (gC G 0, 31, .inl A)) := by rw [hk (wo + 3) (by omega)]; exact g3
    have eK : K x = nI (evK es x) := (hKP x hx).1
    have eP : P x = nI (evP es x) := (hKP x hx).2
    have eA : A x = nI (aN es x) := hA x (by omega)
    have cx : (nI x).toNatClampNeg = x := nI_clamp (by omega)
    have cy : (nI (x + 1)).toNatClampNeg = x + 1 := nI_clamp (by omega)
    have vx : vp_in (nI x) 30 := vp_in_nI (by omega) (by decide)
    have vx1 : vp_in (nI x) 31 := vp_in_nI (by omega) (by decide)
    have vy : vp_in (nI (x + 1)) 31 := vp_in_nI (by omega) (by decide)
    have w1 : (nI es.length ≤ nI x) = False := eq_false (by simp (disch := omega) only [z_nI, z_lit, z_neg, z_add, z_sub, z_mul, z_lt, z_le, z_eq, z_in, z_cl]; omega)
    have hbs := bth_succ (es := es) hx
    have hbm := bth_mono (es := es) (x + 1) es.length (by omega) (Nat.le_refl _)
    generalize hp' : evP es x = p at *
    generalize hs' : aN es x = s at *
    have z0 : (0 : Int32).toNatClampNeg = 0 := rfl
    have z1 : ((0 : Int32) < 0) = False := eq_false (by decide)
    have cp : (nI p).toNatClampNeg = p := nI_clamp (by omega)
    have np : (nI p < 0) = False := eq_false (by simp (disch := omega) only [z_nI, z_lit, z_neg, z_add, z_sub, z_mul, z_lt, z_le, z_eq, z_in, z_cl]; omega)
    refine MW.run1 gd_X5_layArcs [7, 68, 104] 40 ?_
    simp (disch := omega) only [↓EVk, ↓w_if_eq, ↓w_an_ite, ↓mEndK, ↓w_retK0, ↓w_fitK, ↓w_dupK, ↓w_dup2K, w_an_back, ↓EVd, ↓ft_X5_layArcs, ↓reduceIte, ↓EV_obs, ↓EV_obn, ↓EV_ais, ↓EV_ain, ↓EV_ob q0, ↓EV_ob f0, ↓EV_ai f1, ↓EV_ai f2, ↓EV_ai f3, ↓EV_ar q5, ↓EV_arn, mdF, mRun, List.mem_cons, List.not_mem_nil, or_false, mtab_eq, Nat.reduceEqDiff, Nat.zero_add, cx, cy, nI_1, vx, vx1, vy, w1, eK, eP, eA, mset2, b10, b00, not_true_eq_false, not_false_eq_true, true_implies, false_implies, implies_true, and_true, true_and, Nat.le_refl, true_or, or_true, eq_self, List.length_cons, List.length_nil, Nat.reduceAdd, Nat.reduceLT, Nat.reduceLeDiff]
    rcases (by omega : evK es x = 0 ∨ evK es x = 1 ∨ evK es x = 2) with c | c | c
    · obtain ⟨u1, u2, u3⟩ := e0 c
      have w2 : (nI (evK es x) = 0) = True := eq_true (by rw [c]; rfl)
      simp (disch := omega) only [↓EVk, ↓w_if_eq, ↓w_an_ite, ↓mEndK, ↓w_retK0, ↓w_fitK, ↓w_dupK, ↓w_dup2K, w_an_back, ↓EVd, ↓ft_X5_layArcs, ↓reduceIte, ↓EV_obs, ↓EV_obn, ↓EV_ais, ↓EV_ain, mdF, mRun, List.mem_cons, List.not_mem_nil, or_false, mtab_eq, Nat.reduceEqDiff, Nat.zero_add, w2, mset2, b10, b00, not_true_eq_false, not_false_eq_true, true_implies, false_implies, implies_true, and_true, true_and, Nat.le_refl, true_or, or_true, eq_self, List.length_cons, List.length_nil, Nat.reduceAdd, Nat.reduceLT, Nat.reduceLeDiff]
      have c3 : (nI p + 2).toNatClampNeg = p + 2 := by simp (disch := omega) only [z_nI, z_lit, z_neg, z_add, z_sub, z_mul, z_lt, z_le, z_eq, z_in, z_cl]; omega
      have c4 : (nI s - nI p).toNatClampNeg = s - p := by simp (disch := omega) only [z_nI, z_lit, z_neg, z_add, z_sub, z_mul, z_lt, z_le, z_eq, z_in, z_cl]; omega
      have n3 : (nI p + 2 < 0) = False := eq_false (by simp (disch := omega) only [z_nI, z_lit, z_neg, z_add, z_sub, z_mul, z_lt, z_le, z_eq, z_in, z_cl]; omega)
      have n4 : (nI s - nI p < 0) = False := eq_false (by simp (disch := omega) only [z_nI, z_lit, z_neg, z_add, z_sub, z_mul, z_lt, z_le, z_eq, z_in, z_cl]; omega)
      have l1 : p ≤ 10 := by omega
      have l2 : p + (s - p) ≤ 10 := by omega
      have l3 : p + 2 + (s - p) ≤ 10 := by omega
      refine MW.run1 gd_X5_layArcs [7] 34 ?_
      simp (disch := omega) only [↓EVk, ↓w_if_eq, ↓w_an_ite, ↓mEndK, ↓w_retK0, ↓w_fitK, ↓w_dupK, ↓w_dup2K, w_an_back, ↓EVd, ↓ft_X5_layArcs, ↓reduceIte, ↓EV_obs, ↓EV_obn, ↓EV_ais, ↓EV_ain, ↓EV_ob q0, ↓EV_ai rx, ↓EV_ai ry, mdF, mRun, List.mem_cons, List.not_mem_nil, or_false, mtab_eq, Nat.reduceEqDiff, Nat.zero_add, hd1, z0, z1, cp, np, c3, c4, n3, n4, l1, l2, l3, mset2, b10, b00, not_true_eq_false, not_false_eq_true, true_implies, false_implies, implies_true, and_true, true_and, Nat.le_refl, true_or, or_true, eq_self, List.length_cons, List.length_nil, Nat.reduceAdd, Nat.reduceLT, Nat.reduceLeDiff]
      rw [if_pos c] at hbs
      refine w_beginArcs (WaysC_R hW' (k := x + 1) (by omega)) (by omega) (by omega) (by omega) (fun h2 hW2 hk2 => ?_)
      simp (disch := omega) only [↓EVk, ↓w_if_eq, ↓w_an_ite, ↓mEndK, ↓w_retK0, ↓w_fitK, ↓w_dupK, ↓w_dup2K, w_an_back, ↓EVd, ↓ft_X5_layArcs, ↓reduceIte, ↓EV_obs, ↓EV_obn, ↓EV_ais, ↓EV_ain, mdF, mRun, List.mem_cons, List.not_mem_nil, or_false, mtab_eq, Nat.reduceEqDiff, Nat.zero_add, mset2, b10, b00, not_true_eq_false, not_false_eq_true, true_implies, false_implies, implies_true, and_true, true_and, Nat.le_refl, true_or, or_true, eq_self, List.length_cons, List.length_nil, Nat.reduceAdd, Nat.reduceLT, Nat.reduceLeDiff]
      rw [nI_1]
      refine ih _ _ ⟨_, _, _, _, _, _, rfl, by rw [hbs]; exact hW2, ?_, mKeep_trans hk (mKeep_trans (fun z hz => mset_ne (by omega)) hk2)⟩
      rw [aset_aset, aset_at]
      refine layI_b hx c hI (fun y hy => ?_)
      rcases (by omega : y < p ∨ y = p ∨ y = p + 1 ∨ p + 1 < y) with q | q | q | q
      · rw [pk_un (by omega), pk_un (by omega), pk_cpy_out (by omega), pk_cpy_in (by omega) (by omega), arc_b0 c (by rw [hp']; exact q), Nat.zero_add, Nat.sub_zero]
        exact hI.1 x (Nat.le_refl _) y (by omega)
      · rw [pk_un (by omega), q, pk_us, ← hp', arc_b1 c]
      · rw [q, pk_us, ← hp', arc_b2 c]
      · rw [pk_un (by omega), pk_un (by omega), pk_cpy_in (by omega) (by omega), arc_b3 c (by rw [hp']; exact q), show p + (y - (p + 2)) = y - 2 by omega]
        exact hI.1 x (Nat.le_refl _) _ (by omega)
    · obtain ⟨u1, u2⟩ := e1 c
      have w2 : (nI (evK es x) = 0) = False := eq_false (by rw [c]; decide)
      have w3 : (nI (evK es x) = 1) = True := eq_true (by rw [c]; rfl)
      simp (disch := omega) only [↓EVk, ↓w_if_eq, ↓w_an_ite, ↓mEndK, ↓w_retK0, ↓w_fitK, ↓w_dupK, ↓w_dup2K, w_an_back, ↓EVd, ↓ft_X5_layArcs, ↓reduceIte, ↓EV_obs, ↓EV_obn, ↓EV_ais, ↓EV_ain, mdF, mRun, List.mem_cons, List.not_mem_nil, or_false, mtab_eq, Nat.reduceEqDiff, Nat.zero_add, w2, mset2, b10, b00, not_true_eq_false, not_false_eq_true, true_implies, false_implies, implies_true, and_true, true_and, Nat.le_refl, true_or, or_true, eq_self, List.length_cons, List.length_nil, Nat.reduceAdd, Nat.reduceLT, Nat.reduceLeDiff]
      have cs : (nI s).toNatClampNeg = s := nI_clamp (by omega)
      have ns : (nI s < 0) = False := eq_false (by simp (disch := omega) only [z_nI, z_lit, z_neg, z_add, z_sub, z_mul, z_lt, z_le, z_eq, z_in, z_cl]; omega)
      have c3 : (nI (p + 1)).toNatClampNeg = p + 1 := nI_clamp (by omega)
      have v1 : vp_in (nI p) 10 := vp_in_nI (by omega) (by decide)
      have v2 : vp_in (nI (p + 1)) 10 := vp_in_nI (by omega) (by decide)
      have l1 : s ≤ 10 := by omega
      have r1 : R' x p = nI (arcF es x p) := hI.1 x (Nat.le_refl _) p (by omega)
      have r2 : R' x (p + 1) = nI (arcF es x (p + 1)) := hI.1 x (Nat.le_refl _) (p + 1) (by omega)
      refine MW.run1 gd_X5_layArcs [7] 34 ?_
      simp (disch := omega) only [↓EVk, ↓w_if_eq, ↓w_an_ite, ↓mEndK, ↓w_retK0, ↓w_fitK, ↓w_dupK, ↓w_dup2K, w_an_back, ↓EVd, ↓ft_X5_layArcs, ↓reduceIte, ↓EV_obs, ↓EV_obn, ↓EV_ais, ↓EV_ain, ↓EV_ob q0, ↓EV_ob f0, ↓EV_ai f1, ↓EV_ai rx, ↓EV_ai ry, mdF, mRun, List.mem_cons, List.not_mem_nil, or_false, mtab_eq, Nat.reduceEqDiff, Nat.zero_add, hd1, z0, z1, cp, c3, cs, ns, v1, v2, nI_1, l1, cx, vx, eK, w3, r1, r2, mset2, b10, b00, not_true_eq_false, not_false_eq_true, true_implies, false_implies, implies_true, and_true, true_and, Nat.le_refl, true_or, or_true, eq_self, List.length_cons, List.length_nil, Nat.reduceAdd, Nat.reduceLT, Nat.reduceLeDiff]
      rw [if_neg (by omega), Nat.add_zero] at hbs
      refine ih _ _ ⟨_, _, _, _, _, _, rfl, by rw [hbs]; exact WaysC_R hW' (k := x + 1) (by omega), ?_, mKeep_trans hk (fun z hz => mset_ne (by omega))⟩
      refine layI_c hx c hI (fun y hy => ?_)
      rcases (by omega : y = p ∨ y = p + 1 ∨ (y ≠ p ∧ y ≠ p + 1)) with q | q | q
      · rw [q, pk_un (by omega), pk_us, ← hp', arc_c1 c]
      · rw [q, pk_us, ← hp', arc_c2 c]
      · rw [pk_un q.2, pk_un q.1, pk_cpy_in (by omega) (by omega), arc_c0 c (by rw [hp']; exact q.1) (by rw [hp']; exact q.2), Nat.zero_add, Nat.sub_zero]
        exact hI.1 x (Nat.le_refl _) _ (by omega)
    · obtain ⟨u1, u2⟩ := e2 c
      have w2 : (nI (evK es x) = 0) = False := eq_false (by rw [c]; decide)
      have w3 : (nI (evK es x) = 1) = False := eq_false (by rw [c]; decide)
      simp (disch := omega) only [↓EVk, ↓w_if_eq, ↓w_an_ite, ↓mEndK, ↓w_retK0, ↓w_fitK, ↓w_dupK, ↓w_dup2K, w_an_back, ↓EVd, ↓ft_X5_layArcs, ↓reduceIte, ↓EV_obs, ↓EV_obn, ↓EV_ais, ↓EV_ain, mdF, mRun, List.mem_cons, List.not_mem_nil, or_false, mtab_eq, Nat.reduceEqDiff, Nat.zero_add, w2, mset2, b10, b00, not_true_eq_false, not_false_eq_true, true_implies, false_implies, implies_true, and_true, true_and, Nat.le_refl, true_or, or_true, eq_self, List.length_cons, List.length_nil, Nat.reduceAdd, Nat.reduceLT, Nat.reduceLeDiff]
      have c3 : (nI p + 2).toNatClampNeg = p + 2 := by simp (disch := omega) only [z_nI, z_lit, z_neg, z_add, z_sub, z_mul, z_lt, z_le, z_eq, z_in, z_cl]; omega
      have c4 : (nI s - nI p - 2).toNatClampNeg = s - p - 2 := by simp (disch := omega) only [z_nI, z_lit, z_neg, z_add, z_sub, z_mul, z_lt, z_le, z_eq, z_in, z_cl]; omega
      have n3 : (nI p + 2 < 0) = False := eq_false (by simp (disch := omega) only [z_nI, z_lit, z_neg, z_add, z_sub, z_mul, z_lt, z_le, z_eq, z_in, z_cl]; omega)
      have n4 : (nI s - nI p - 2 < 0) = False := eq_false (by simp (disch := omega) only [z_nI, z_lit, z_neg, z_add, z_sub, z_mul, z_lt, z_le, z_eq, z_in, z_cl]; omega)
      have l1 : p ≤ 10 := by omega
      have l2 : p + 2 + (s - p - 2) ≤ 10 := by omega
      have l3 : p + (s - p - 2) ≤ 10 := by omega
      have c5 : (nI (p + 1)).toNatClampNeg = p + 1 := nI_clamp (by omega)
      have v1 : vp_in (nI p) 10 := vp_in_nI (by omega) (by decide)
      have v2 : vp_in (nI (p + 1)) 10 := vp_in_nI (by omega) (by decide)
      have r1 : R' x p = nI (arcF es x p) := hI.1 x (Nat.le_refl _) p (by omega)
      have r2 : R' x (p + 1) = nI (arcF es x (p + 1)) := hI.1 x (Nat.le_refl _) (p + 1) (by omega)
      have t1 := arc_lt hw.1 x p (by omega) (by omega)
      have t2 := arc_lt hw.1 x (p + 1) (by omega) (by omega)
      have t3 := bth_mono (es := es) x es.length (by omega) (Nat.le_refl _)
      refine MW.run1 gd_X5_layArcs [7] 36 ?_
      simp (disch := omega) only [↓EVk, ↓w_if_eq, ↓w_an_ite, ↓mEndK, ↓w_retK0, ↓w_fitK, ↓w_dupK, ↓w_dup2K, w_an_back, ↓EVd, ↓ft_X5_layArcs, ↓reduceIte, ↓EV_obs, ↓EV_obn, ↓EV_ais, ↓EV_ain, ↓EV_ob q0, ↓EV_ob f0, ↓EV_ai f1, ↓EV_ai rx, ↓EV_ai ry, mdF, mRun, List.mem_cons, List.not_mem_nil, or_false, mtab_eq, Nat.reduceEqDiff, Nat.zero_add, hd1, z0, z1, cp, np, c3, c4, c5, n3, n4, v1, v2, nI_1, l1, l2, l3, cx, vx, eK, w3, r1, r2, mset2, b10, b00, not_true_eq_false, not_false_eq_true, true_implies, false_implies, implies_true, and_true, true_and, Nat.le_refl, true_or, or_true, eq_self, List.length_cons, List.length_nil, Nat.reduceAdd, Nat.reduceLT, Nat.reduceLeDiff]
      refine w_endArcs (WaysC_R hW' (k := x + 1) (by omega)) (by omega) (by omega) (fun h2 hW2 hk2 => ?_)
      simp (disch := omega) only [↓EVk, ↓w_if_eq, ↓w_an_ite, ↓mEndK, ↓w_retK0, ↓w_fitK, ↓w_dupK, ↓w_dup2K, w_an_back, ↓EVd, ↓ft_X5_layArcs, ↓reduceIte, ↓EV_obs, ↓EV_obn, ↓EV_ais, ↓EV_ain, mdF, mRun, List.mem_cons, List.not_mem_nil, or_false, mtab_eq, Nat.reduceEqDiff, Nat.zero_add, nI_1, mset2, b10, b00, not_true_eq_false, not_false_eq_true, true_implies, false_implies, implies_true, and_true, true_and, Nat.le_refl, true_or, or_true, eq_self, List.length_cons, List.length_nil, Nat.reduceAdd, Nat.reduceLT, Nat.reduceLeDiff]
      rw [if_neg (by omega), Nat.add_zero] at hbs
      refine ih _ _ ⟨_, _, _, _, _, _, rfl, by rw [hbs]; exact hW2, ?_, mKeep_trans hk (mKeep_trans (fun z hz => mset_ne (by omega)) hk2)⟩
      refine layI_d hw.1 hx c (by rw [hp']) (by rw [hp']) hI (fun y hy => ?_)
      rcases (by omega : y < p ∨ p ≤ y) with q | q
      · rw [pk_cpy_out (by omega), pk_cpy_in (by omega) (by omega), arc_d0 c (by rw [hp']; exact q), Nat.zero_add, Nat.sub_zero]
        exact hI.1 x (Nat.le_refl _) y (by omega)
      · rw [pk_cpy_in (by omega) (by omega), arc_d1 c (by rw [hp']; exact q), show p + 2 + (y - p) = y + 2 by omega]
        exact hI.1 x (Nat.le_refl _) _ (by omega)
  · rintro L h' ⟨R', a', x2, x3, x4, x5, rfl, hW', hI, hk⟩
    have f0 : h' wo = some (.inr (0, [.ref (wo + 1), .ref (wo + 2), .ref (wo + 3), .int (nI es.length), .int (nI (crs es))])) := by rw [hk wo (by omega)]; exact g0
    have w1 : (nI es.length ≤ nI es.length) = True := eq_true (nI_le (Nat.le_refl _) (by omega))
    refine MW.run1 gd_X5_layArcs [7] 8 ?_
    simp (disch := omega) only [↓EVk, ↓w_if_eq, ↓w_an_ite, ↓mEndK, ↓w_retK0, ↓w_fitK, ↓w_dupK, ↓w_dup2K, w_an_back, ↓EVd, ↓ft_X5_layArcs, ↓reduceIte, ↓EV_obs, ↓EV_obn, ↓EV_ais, ↓EV_ain, ↓EV_ob hW'.1, ↓EV_ob f0, mdF, mRun, List.mem_cons, List.not_mem_nil, or_false, mtab_eq, Nat.reduceEqDiff, Nat.zero_add, w1, mset2, b10, b00, not_true_eq_false, not_false_eq_true, true_implies, false_implies, implies_true, and_true, true_and, Nat.le_refl, true_or, or_true, eq_self, List.length_cons, List.length_nil, Nat.reduceAdd, Nat.reduceLT, Nat.reduceLeDiff]
    exact hp h' R' a' hW' hI hk
/-- all that the ways hold of a front -/
theorem wlk_pb {es : List Ev} {q : Nat} : ∀ (k : Nat) (V : VM) (u e cur : Nat) (l : Int), (∀ c m, V c = some m → m.1 ≤ q) → ∀ c m, (wlk es q k V u e cur l).1 c = some m → m.1 ≤ q
  | 0, V, u, e, cur, l, h => h
  | k + 1, V, u, e, cur, l, h => by
    unfold wlk
    by_cases c : (V cur).isSome = true
    · rw [if_pos c]
      exact h
    · rw [if_neg c]
      refine wlk_pb k _ _ _ _ _ (fun x m hm => ?_)
      unfold v2 vset at hm
      by_cases c1 : x = mt es cur
      · rw [if_pos c1] at hm
        cases hm
        exact Nat.le_refl _
      · rw [if_neg c1] at hm
        by_cases c2 : x = cur
        · rw [if_pos c2] at hm
          cases hm
          exact Nat.le_refl _
        · rw [if_neg c2] at hm
          exact h x m hm
theorem trc_pb {es : List Ev} : ∀ j c m, (trc es j).1 c = some m → m.1 < (trc es j).2.1
  | 0, c, m, h => absurd h (by show ¬ (none : Option Mk) = some m; simp)
  | j + 1, c, m, h => by
    unfold trc at h ⊢
    by_cases k : ((trc es j).1 (2 * j + 1)).isSome = true
    · rw [if_pos k] at h ⊢
      exact trc_pb j c m h
    · rw [if_neg k] at h ⊢
      have := wlk_pb (es := es) (q := (trc es j).2.1) 16 (trc es j).1 0 0 (2 * j + 1) 0 (fun c m h => Nat.le_of_lt (trc_pb j c m h)) c m h
      show m.1 < (trc es j).2.1 + 1
      omega
def WyR (h : mH) (G : mG) (W wo : Nat) (es : List Ev) : Prop := ∃ R a, WaysC h G W wo (nI (nA es)) (nI (trT es).2.1) R a ∧ layI es es.length R a ∧ VR es (trT es).1 a ∧ ∀ q, q < (trT es).2.1 → a 6 q = nI ((trT es).2.2.1 q) ∧ a 8 q = nI ((trT es).2.2.2.1 q) ∧ a 7 q = nI ((trT es).2.2.2.2 q)
/-- the tables of the pieces -/
def PT (T : TS) (a : Nat → Nat → Int32) : Prop := ∀ q, q < T.2.1 → a 6 q = nI (T.2.2.1 q) ∧ a 8 q = nI (T.2.2.2.1 q) ∧ a 7 q = nI (T.2.2.2.2 q)
theorem layI_congr {es : List Ev} {x : Nat} {a' : Nat → Nat → Int32} (hI : layI es x R a) (e : ∀ k, k < 3 → a' k = a k) : layI es x R a' := by
  unfold layI
  rw [e 0 (by decide), e 1 (by decide), e 2 (by decide)]
  exact hI
set_option maxRecDepth 10000 in
theorem w_trace {es : List Ev} {F : Nat} (hd : 3 ≤ d) (hw : whl es) (hW : WA h G W) (hF : FrontR h G F es) (ho : F + 3 < W ∨ W + 45 < F)
    (hp : ∀ h', WyR h' G W F es → mKeep h h' W (W + 45) → post none h') : MC G MX5_trace d 0 0 [.ref W, .ref F] h N post := by
  have hd1 : 1 ≤ d := by omega
  obtain ⟨wo, ac, pc, R, a, hW⟩ := hW
  have h0 := hW.1
  have b30 := (vld_bd hw.1).1
  have hb15 := bth_le hw
  have hnA : nA es ≤ 30 := by unfold nA; omega
  refine MC.of (L0 := [some (.ref W), some (.ref F), none]) gd_X5_trace (Nat.le_of_ble_eq_true rfl) rfl (MW.run gd_X5_trace [11, 39] 14 ?_)
  simp (disch := omega) only [↓EVk, ↓w_if_eq, ↓w_an_ite, ↓mEndK, ↓w_retK0, ↓w_fitK, ↓w_dupK, ↓w_dup2K, w_an_back, ↓EVd, ↓ft_X5_trace, ↓reduceIte, ↓EV_obs, ↓EV_obn, ↓EV_ais, ↓EV_ain, ↓EV_ob h0, mdF, mRun, List.mem_cons, List.not_mem_nil, or_false, mtab_eq, Nat.reduceEqDiff, Nat.zero_add, hd1, mset2, b10, b00, not_true_eq_false, not_false_eq_true, true_implies, false_implies, implies_true, and_true, true_and, Nat.le_refl, true_or, or_true, eq_self, List.length_cons, List.length_nil, Nat.reduceAdd, Nat.reduceLT, Nat.reduceLeDiff]
  have hF1 : FrontR (mset h W (.inr (5, [.ref F, .ref (W + 5), .ref (W + 37), .ref (W + 38), .ref (W + 39), .ref (W + 40), .ref (W + 41), .ref (W + 42), .int ac, .int pc, .ref (W + 43), .ref (W + 44), .ref (W + 45)]))) G F es := FR_eq (fun q h1 h2 => mset_ne (by omega)) hF
  refine w_layArcs (by omega) hw (WaysC_v (wo' := F) (ac' := ac) (pc' := pc) hW) hF1 ho (fun h1 R1 a1 hW1 hI1 hk1 => ?_)
  have hk1' : mKeep h h1 W (W + 45) := mKeep_trans (fun z hz => mset_ne (by omega)) hk1
  simp (disch := omega) only [↓EVk, ↓w_if_eq, ↓w_an_ite, ↓mEndK, ↓w_retK0, ↓w_fitK, ↓w_dupK, ↓w_dup2K, w_an_back, ↓EVd, ↓ft_X5_trace, ↓reduceIte, ↓EV_obs, ↓EV_obn, ↓EV_ais, ↓EV_ain, mdF, mRun, List.mem_cons, List.not_mem_nil, or_false, mtab_eq, Nat.reduceEqDiff, Nat.zero_add, mset2, b10, b00, not_true_eq_false, not_false_eq_true, true_implies, false_implies, implies_true, and_true, true_and, Nat.le_refl, true_or, or_true, eq_self, List.length_cons, List.length_nil, Nat.reduceAdd, Nat.reduceLT, Nat.reduceLeDiff]
  refine MW.upto (nA es) (fun i L h' => ∃ a', L = [some (.ref W), some (.ref F), some (.int (nI i))] ∧ WaysC h' G W F (nI (nA es)) pc R1 a' ∧ (∀ k, k < 3 → a' k = a1 k) ∧ (∀ c, c < i → a' 3 c = -1) ∧ mKeep h h' W (W + 45)) ?_ ?_ 0 _ _ (Nat.zero_le _) ⟨a1, rfl, hW1, fun _ _ => rfl, fun c hc => absurd hc (Nat.not_lt_zero _), hk1'⟩
  · rintro i L h' hi ⟨a', rfl, hW', hk3, hm, hk⟩ ih
    have a3 : h' (W + 40) = some (.inl (gC G 0, 30, .inl (a' 3))) := hW'.2.2.2 3 (by decide)
    have w1 : (nI (nA es) ≤ nI i) = False := eq_false (by simp (disch := omega) only [z_nI, z_lit, z_neg, z_add, z_sub, z_mul, z_lt, z_le, z_eq, z_in, z_cl]; omega)
    have ci : (nI i).toNatClampNeg = i := nI_clamp (by omega)
    have vi : vp_in (nI i) 30 := vp_in_nI (by omega) (by decide)
    refine MW.run1 gd_X5_trace [11, 39] 20 ?_
    simp (disch := omega) only [↓EVk, ↓w_if_eq, ↓w_an_ite, ↓mEndK, ↓w_retK0, ↓w_fitK, ↓w_dupK, ↓w_dup2K, w_an_back, ↓EVd, ↓ft_X5_trace, ↓reduceIte, ↓EV_obs, ↓EV_obn, ↓EV_ais, ↓EV_ain, ↓EV_ob hW'.1, ↓EV_ai a3, mdF, mRun, List.mem_cons, List.not_mem_nil, or_false, mtab_eq, Nat.reduceEqDiff, Nat.zero_add, w1, ci, vi, nI_1, mset2, b10, b00, not_true_eq_false, not_false_eq_true, true_implies, false_implies, implies_true, and_true, true_and, Nat.le_refl, true_or, or_true, eq_self, List.length_cons, List.length_nil, Nat.reduceAdd, Nat.reduceLT, Nat.reduceLeDiff]
    refine ih _ _ ⟨_, rfl, WaysC_a (k := 3) hW' (by decide), fun k hk => by unfold aset; rw [if_neg (by omega)]; exact hk3 k hk, fun c hc => ?_, mKeep_trans hk (fun z hz => mset_ne (by omega))⟩
    rw [aset_at]
    by_cases q : c = i
    · rw [q, pk_us]
    · rw [pk_un q]
      exact hm c (by omega)
  · rintro L h2 ⟨a2, rfl, hW2, hk3, hm, hk2⟩
    have w1 : (nI (nA es) ≤ nI (nA es)) = True := eq_true (nI_le (Nat.le_refl _) (by omega))
    refine MW.run1 gd_X5_trace [11, 39] 20 ?_
    simp (disch := omega) only [↓EVk, ↓w_if_eq, ↓w_an_ite, ↓mEndK, ↓w_retK0, ↓w_fitK, ↓w_dupK, ↓w_dup2K, w_an_back, ↓EVd, ↓ft_X5_trace, ↓reduceIte, ↓EV_obs, ↓EV_obn, ↓EV_ais, ↓EV_ain, ↓EV_ob hW2.1, mdF, mRun, List.mem_cons, List.not_mem_nil, or_false, mtab_eq, Nat.reduceEqDiff, Nat.zero_add, w1, mset2, b10, b00, not_true_eq_false, not_false_eq_true, true_implies, false_implies, implies_true, and_true, true_and, Nat.le_refl, true_or, or_true, eq_self, List.length_cons, List.length_nil, Nat.reduceAdd, Nat.reduceLT, Nat.reduceLeDiff]
    have hI2 : layI es es.length R1 a2 := layI_congr hI1 hk3
    have hD2 := layI_end hw hI2
    refine MW.upto (bth es es.length) (fun j L h' => ∃ a', L = [some (.ref W), some (.ref F), some (.int (nI (2 * j + 1)))] ∧ WaysC h' G W F (nI (nA es)) (nI (trc es j).2.1) R1 a' ∧ (∀ k, k < 3 → a' k = a2 k) ∧ VR es (trc es j).1 a' ∧ PT (trc es j) a' ∧ mKeep h h' W (W + 45)) ?_ ?_ 0 _ _ (Nat.zero_le _) ⟨a2, rfl, WaysC_v hW2, fun _ _ => rfl, fun c hc => hm c hc, fun q hq => absurd hq (Nat.not_lt_zero _), mKeep_trans hk2 (fun z hz => mset_ne (by omega))⟩
    · rintro j L h' hj ⟨a', rfl, hW', hk3', hV, hT, hk⟩ ih
      obtain ⟨t1, t2, t3⟩ := trc_ok hw j (by omega)
      have t4 := cnt_le (trc es j).1 (nA es)
      have hlt : 2 * j + 1 < nA es := by unfold nA; omega
      have a3 : h' (W + 40) = some (.inl (gC G 0, 30, .inl (a' 3))) := hW'.2.2.2 3 (by decide)
      have w1 : (nI (nA es) ≤ nI (2 * j + 1)) = False := eq_false (by simp (disch := omega) only [z_nI, z_lit, z_neg, z_add, z_sub, z_mul, z_lt, z_le, z_eq, z_in, z_cl]; omega)
      have ci : (nI (2 * j + 1)).toNatClampNeg = 2 * j + 1 := nI_clamp (by omega)
      have vi : vp_in (nI (2 * j + 1)) 30 := vp_in_nI (by omega) (by decide)
      have e2 : nI (2 * j + 1) + 2 = nI (2 * (j + 1) + 1) := by simp (disch := omega) only [z_nI, z_lit, z_neg, z_add, z_sub, z_mul, z_lt, z_le, z_eq, z_in, z_cl]; congr 1
      have hv := hV (2 * j + 1) hlt
      have et : trc es (j + 1) = if ((trc es j).1 (2 * j + 1)).isSome = true then trc es j else ((wlk es (trc es j).2.1 16 (trc es j).1 0 0 (2 * j + 1) 0).1, (trc es j).2.1 + 1, nset (trc es j).2.2.1 (trc es j).2.1 (bE es j), nset (trc es j).2.2.2.1 (trc es j).2.1 (wlk es (trc es j).2.1 16 (trc es j).1 0 0 (2 * j + 1) 0).2.1, nset (trc es j).2.2.2.2 (trc es j).2.1 (wlk es (trc es j).2.1 16 (trc es j).1 0 0 (2 * j + 1) 0).2.2) := rfl
      refine MW.run1 gd_X5_trace [39] 30 ?_
      cases o : (trc es j).1 (2 * j + 1) with
      | some m =>
        rw [o] at hv et
        have hm : m.1 < 100 := by
          have := trc_pb j _ m o
          omega
        have w2 : (a' 3 (2 * j + 1) = -1) = False := eq_false (by rw [hv.1]; simp (disch := omega) only [z_nI, z_lit, z_neg, z_add, z_sub, z_mul, z_lt, z_le, z_eq, z_in, z_cl]; omega)
        simp (disch := omega) only [↓EVk, ↓w_if_eq, ↓w_an_ite, ↓mEndK, ↓w_retK0, ↓w_fitK, ↓w_dupK, ↓w_dup2K, w_an_back, ↓EVd, ↓ft_X5_trace, ↓reduceIte, ↓EV_obs, ↓EV_obn, ↓EV_ais, ↓EV_ain, ↓EV_ob hW'.1, ↓EV_ai a3, mdF, mRun, List.mem_cons, List.not_mem_nil, or_false, mtab_eq, Nat.reduceEqDiff, Nat.zero_add, w1, w2, ci, vi, e2, mset2, b10, b00, not_true_eq_false, not_false_eq_true, true_implies, false_implies, implies_true, and_true, true_and, Nat.le_refl, true_or, or_true, eq_self, List.length_cons, List.length_nil, Nat.reduceAdd, Nat.reduceLT, Nat.reduceLeDiff]
        rw [if_pos (show (some m).isSome = true from rfl)] at et
        exact ih _ _ ⟨a', rfl, by rw [et]; exact hW', hk3', by rw [et]; exact hV, by rw [et]; exact hT, hk⟩
      | none =>
        rw [o] at hv et
        have tn : 2 * (trc es j).2.1 + 2 ≤ nA es := by
          have := cnt_full hlt o
          unfold nA at *
          omega
        have w2 : (a' 3 (2 * j + 1) = -1) = True := eq_true hv
        have w3 : (15 ≤ nI (trc es j).2.1) = False := eq_false (by simp (disch := omega) only [z_nI, z_lit, z_neg, z_add, z_sub, z_mul, z_lt, z_le, z_eq, z_in, z_cl]; omega)
        rw [if_neg (by decide)] at et
        simp (disch := omega) only [↓EVk, ↓w_if_eq, ↓w_an_ite, ↓mEndK, ↓w_retK0, ↓w_fitK, ↓w_dupK, ↓w_dup2K, w_an_back, ↓EVd, ↓ft_X5_trace, ↓reduceIte, ↓EV_obs, ↓EV_obn, ↓EV_ais, ↓EV_ain, ↓EV_ob hW'.1, ↓EV_ai a3, mdF, mRun, List.mem_cons, List.not_mem_nil, or_false, mtab_eq, Nat.reduceEqDiff, Nat.zero_add, w1, w2, w3, ci, vi, hd1, mset2, b10, b00, not_true_eq_false, not_false_eq_true, true_implies, false_implies, implies_true, and_true, true_and, Nat.le_refl, true_or, or_true, eq_self, List.length_cons, List.length_nil, Nat.reduceAdd, Nat.reduceLT, Nat.reduceLeDiff]
        have hD' : arcD es a' := by
          unfold arcD
          rw [hk3' 0 (by decide), hk3' 1 (by decide), hk3' 2 (by decide)]
          exact hD2
        refine w_walk (by omega) hw hW' hV hD' (by omega) hj rfl t1 o (fun h4 a4 hW4 hV4 hU4 h64 hk34 ho4 hk4 => ?_)
        simp (disch := omega) only [↓EVk, ↓w_if_eq, ↓w_an_ite, ↓mEndK, ↓w_retK0, ↓w_fitK, ↓w_dupK, ↓w_dup2K, w_an_back, ↓EVd, ↓ft_X5_trace, ↓reduceIte, ↓EV_obs, ↓EV_obn, ↓EV_ais, ↓EV_ain, mdF, mRun, List.mem_cons, List.not_mem_nil, or_false, mtab_eq, Nat.reduceEqDiff, Nat.zero_add, e2, mset2, b10, b00, not_true_eq_false, not_false_eq_true, true_implies, false_implies, implies_true, and_true, true_and, Nat.le_refl, true_or, or_true, eq_self, List.length_cons, List.length_nil, Nat.reduceAdd, Nat.reduceLT, Nat.reduceLeDiff]
        refine ih _ _ ⟨a4, rfl, by rw [et]; exact hW4, fun k hk => by rw [hk34 k hk, hk3' k hk], by rw [et]; exact hV4, ?_, mKeep_trans hk hk4⟩
        rw [et]
        intro q hq
        show a4 6 q = nI (nset _ _ _ q) ∧ a4 8 q = nI (nset _ _ _ q) ∧ a4 7 q = nI (nset _ _ _ q)
        unfold nset
        by_cases c : q = (trc es j).2.1
        · rw [if_pos c, if_pos c, if_pos c, c]
          exact ⟨h64, hU4⟩
        · rw [if_neg c, if_neg c, if_neg c, (ho4 q c).1, (ho4 q c).2.1, (ho4 q c).2.2]
          have : q < (trc es j).2.1 + 1 := hq
          exact hT q (by omega)
    · rintro L h' ⟨a', rfl, hW', hk3', hV, hT, hk⟩
      have w2 : (nI (nA es) ≤ nI (2 * bth es es.length + 1)) = True := eq_true (by unfold nA; simp (disch := omega) only [z_nI, z_lit, z_neg, z_add, z_sub, z_mul, z_lt, z_le, z_eq, z_in, z_cl]; omega)
      refine MW.run1 gd_X5_trace [39] 8 ?_
      simp (disch := omega) only [↓EVk, ↓w_if_eq, ↓w_an_ite, ↓mEndK, ↓w_retK0, ↓w_fitK, ↓w_dupK, ↓w_dup2K, w_an_back, ↓EVd, ↓ft_X5_trace, ↓reduceIte, ↓EV_obs, ↓EV_obn, ↓EV_ais, ↓EV_ain, ↓EV_ob hW'.1, mdF, mRun, List.mem_cons, List.not_mem_nil, or_false, mtab_eq, Nat.reduceEqDiff, Nat.zero_add, w2, mset2, b10, b00, not_true_eq_false, not_false_eq_true, true_implies, false_implies, implies_true, and_true, true_and, Nat.le_refl, true_or, or_true, eq_self, List.length_cons, List.length_nil, Nat.reduceAdd, Nat.reduceLT, Nat.reduceLeDiff]
      exact hp h' ⟨R1, a', hW', layI_congr hI2 hk3', hV, hT⟩ hk
end WYL
