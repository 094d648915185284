/-! constructors of Ways, Switching and of the class -/
set_option maxRecDepth 100000 in
theorem nwW : (Cond.instantiable "CornerFronts$Front" 5 ∈ lw_tbl ∧ Cond.initialized "CornerFronts$Front" ∈ lw_tbl) ∧ (Cond.instantiable "CornerFronts$Patch" 4 ∈ lw_tbl ∧ Cond.initialized "CornerFronts$Patch" ∈ lw_tbl) ∧ (Cond.instantiable "CornerFronts$Sheet" 3 ∈ lw_tbl ∧ Cond.initialized "CornerFronts$Sheet" ∈ lw_tbl) ∧ (Cond.instantiable "CornerFronts$Switching" 7 ∈ lw_tbl ∧ Cond.initialized "CornerFronts$Switching" ∈ lw_tbl) ∧ (Cond.instantiable "CornerFronts$Tape" 6 ∈ lw_tbl ∧ Cond.initialized "CornerFronts$Tape" ∈ lw_tbl) ∧ (Cond.instantiable "CornerFronts$Ways" 13 ∈ lw_tbl ∧ Cond.initialized "CornerFronts$Ways" ∈ lw_tbl) ∧ (Cond.instantiable "CornerFronts" 9 ∈ lw_tbl ∧ Cond.initialized "CornerFronts" ∈ lw_tbl) ∧ (Cond.instantiable "CornerFrontsModel" 30 ∈ lw_tbl ∧ Cond.initialized "CornerFrontsModel" ∈ lw_tbl) := by decide +kernel
set_option maxRecDepth 100000 in
theorem nwL : Cond.classLink "CornerFronts$Ways" 9 "CornerFronts$Front" ∈ lw_tbl ∧ Cond.classLink "CornerFronts$Ways" 18 "[[I" ∈ lw_tbl ∧ Cond.classLink "CornerFronts$Switching" 9 "CornerFronts$Front" ∈ lw_tbl ∧ Cond.classLink "CornerFronts$Switching" 18 "[[I" ∈ lw_tbl := by decide +kernel
set_option maxRecDepth 100000 in
theorem nwX : Cond.classLink "CornerFronts" 9 "CornerFronts$Tape" ∈ lw_tbl ∧ Cond.classLink "CornerFronts" 16 "CornerFronts$Sheet" ∈ lw_tbl ∧ Cond.classLink "CornerFronts" 22 "CornerFronts$Front" ∈ lw_tbl ∧ Cond.classLink "CornerFronts" 33 "CornerFronts$Patch" ∈ lw_tbl ∧ Cond.classLink "CornerFronts" 40 "CornerFronts$Ways" ∈ lw_tbl ∧ Cond.classLink "CornerFronts" 47 "CornerFronts$Switching" ∈ lw_tbl ∧ Cond.classLink "CornerFrontsLaw" 7 "CornerFronts" ∈ lw_tbl ∧ Cond.classLink "CornerFrontsLaw" 10 "CornerFrontsModel" ∈ lw_tbl := by decide +kernel
theorem nd0 : ∀ j, j < 5 → defaultValue (tyCl 0 j) = vp_V [.null, .null, .null, .int 0, .int 0] j := by decide +kernel
theorem nd1 : ∀ j, j < 4 → defaultValue (tyCl 1 j) = vp_V [.null, .null, .int 0, .int 0] j := by decide +kernel
theorem nd2 : ∀ j, j < 3 → defaultValue (tyCl 2 j) = vp_V [.null, .int 0, .int 0] j := by decide +kernel
theorem nd3 : ∀ j, j < 7 → defaultValue (tyCl 3 j) = vp_V [.null, .null, .null, .null, .int 0, .int 0, .int 0] j := by decide +kernel
theorem nd4 : ∀ j, j < 6 → defaultValue (tyCl 4 j) = vp_V [.null, .int 0, .int 0, .int 0, .int 0, .int 0] j := by decide +kernel
theorem nd5 : ∀ j, j < 13 → defaultValue (tyCl 5 j) = vp_V [.null, .null, .null, .null, .null, .null, .null, .null, .int 0, .int 0, .null, .null, .null] j := by decide +kernel
theorem nd6 : ∀ j, j < 9 → defaultValue (tyCl 6 j) = vp_V [.null, .null, .null, .null, .null, .null, .null, .int 0, .int 0] j := by decide +kernel
theorem nd7 : ∀ j, j < 30 → defaultValue (tyCl 7 j) = vp_V [.int 0, .null, .null, .null, .int 0, .null, .null, .null, .int 0, .int 0, .int 0, .int 0, .int 0, .int 0, .int 0, .int 0, .int 0, .int 0, .null, .null, .null, .null, .null, .null, .int 0, .null, .null, .null, .null, .null] j := by decide +kernel
theorem mc0 : mCost 0 = (3, 91) := rfl
theorem mc1 : mCost 1 = (2, 6) := rfl
theorem mc2 : mCost 2 = (1, 62) := rfl
theorem mc3 : mCost 3 = (38, 484) := rfl
theorem mc4 : mCost 4 = (1, 120) := rfl
theorem mc5 : mCost 5 = (45, 663) := rfl
theorem mc6 : mCost 6 = (136, 2500) := rfl
theorem mc7 : mCost 7 = (17, 2100) := rfl
theorem mrows_at {h : mH} {G : mG} {a : Nat} : mrows h G a a = some (.inl (gC G 3, 31, .inr (.inr (.inr (.inr (fun i => some (a + 1 + i))))))) := if_pos rfl
theorem mrows_in {h : mH} {G : mG} {a q : Nat} (h1 : a + 1 ≤ q) (h2 : q < a + 32) : mrows h G a q = some (.inl (gC G 0, 10, .inl (fun _ => 0))) := by
  unfold mrows
  rw [if_neg (by omega), if_pos ⟨h1, h2⟩]
theorem mrows_out {h : mH} {G : mG} {a q : Nat} (h1 : q < a ∨ a + 32 ≤ q) : mrows h G a q = h q := by
  unfold mrows
  rw [if_neg (by omega), if_neg (by omega)]
section CTR2
variable {G : mG} {d : Nat} {h : mH} {post : Option Value → mH → Prop}
set_option maxRecDepth 10000 in
theorem c_Ways_2 {W wo : Nat} {h2 : mH} (w0 : h2 W = some (.inr (5, [.ref wo, .null, .null, .null, .null, .null, .null, .null, .int 0, .int 0, .null, .null, .null])))
    (r5 : h2 (W + 5) = some (.inl (gC G 3, 31, .inr (.inr (.inr (.inr (fun i => some (W + 5 + 1 + i)))))))) (rr : ∀ q, W + 6 ≤ q → q < W + 37 → h2 q = some (.inl (gC G 0, 10, .inl (fun _ => 0))))
    (hp : ∀ h', WA h' G W → (∀ q, q ≠ W → (q < W + 37 ∨ W + 45 < q) → h' q = h2 q) → post none h') : MW G MX5_init (mz G d 45 663 post) 24 [some (.ref W)] [.ref (W + 5), .ref W] h2 (W + 37, 36, 437) := by
  refine MW.run gd_X5_init [30, 38, 46, 54, 62, 70, 88, 96, 104] 24 ?_
  simp (disch := omega) only [↓EVi, ↓EVc, ↓ft_X5_init, ↓reduceIte, ↓EV_obs, ↓EV_obn, ↓EV_ais, ↓EV_ain, ↓EV_ob w0, mdF, mRun, List.mem_cons, List.not_mem_nil, or_false, mtab_eq, Nat.reduceEqDiff, Nat.zero_add, msw3, Nat.add_assoc, mset2, b10, b00, not_true_eq_false, not_false_eq_true, true_implies, false_implies, implies_true, and_true, true_and, Nat.le_refl, true_or, or_true, eq_self, List.length_cons, List.length_nil, Nat.reduceAdd, Nat.reduceLT, Nat.reduceLeDiff]
  refine MW.newi (K := 30) (MW.dec gd_X5_init (pc := 30) rfl) (by decide) rfl (by decide) (Nat.le_of_ble_eq_true rfl) (Nat.le_of_ble_eq_true rfl) (MW.run gd_X5_init [30, 38, 46, 54, 62, 70, 88, 96, 104] 24 ?_)
  simp (disch := omega) only [↓EVi, ↓EVc, ↓ft_X5_init, ↓reduceIte, ↓EV_obs, ↓EV_obn, ↓EV_ais, ↓EV_ain, mdF, mRun, List.mem_cons, List.not_mem_nil, or_false, mtab_eq, Nat.reduceEqDiff, Nat.zero_add, msw3, Nat.add_assoc, mset2, b10, b00, not_true_eq_false, not_false_eq_true, true_implies, false_implies, implies_true, and_true, true_and, Nat.le_refl, true_or, or_true, eq_self, List.length_cons, List.length_nil, Nat.reduceAdd, Nat.reduceLT, Nat.reduceLeDiff]
  refine MW.newi (K := 30) (MW.dec gd_X5_init (pc := 38) rfl) (by decide) rfl (by decide) (Nat.le_of_ble_eq_true rfl) (Nat.le_of_ble_eq_true rfl) (MW.run gd_X5_init [30, 38, 46, 54, 62, 70, 88, 96, 104] 24 ?_)
  simp (disch := omega) only [↓EVi, ↓EVc, ↓ft_X5_init, ↓reduceIte, ↓EV_obs, ↓EV_obn, ↓EV_ais, ↓EV_ain, mdF, mRun, List.mem_cons, List.not_mem_nil, or_false, mtab_eq, Nat.reduceEqDiff, Nat.zero_add, msw3, Nat.add_assoc, mset2, b10, b00, not_true_eq_false, not_false_eq_true, true_implies, false_implies, implies_true, and_true, true_and, Nat.le_refl, true_or, or_true, eq_self, List.length_cons, List.length_nil, Nat.reduceAdd, Nat.reduceLT, Nat.reduceLeDiff]
  refine MW.newz (K := 30) (MW.dec gd_X5_init (pc := 46) rfl) (by decide) rfl (by decide) (Nat.le_of_ble_eq_true rfl) (Nat.le_of_ble_eq_true rfl) (MW.run gd_X5_init [30, 38, 46, 54, 62, 70, 88, 96, 104] 24 ?_)
  simp (disch := omega) only [↓EVi, ↓EVc, ↓ft_X5_init, ↓reduceIte, ↓EV_obs, ↓EV_obn, ↓EV_ais, ↓EV_ain, mdF, mRun, List.mem_cons, List.not_mem_nil, or_false, mtab_eq, Nat.reduceEqDiff, Nat.zero_add, msw3, Nat.add_assoc, mset2, b10, b00, not_true_eq_false, not_false_eq_true, true_implies, false_implies, implies_true, and_true, true_and, Nat.le_refl, true_or, or_true, eq_self, List.length_cons, List.length_nil, Nat.reduceAdd, Nat.reduceLT, Nat.reduceLeDiff]
  refine MW.newi (K := 30) (MW.dec gd_X5_init (pc := 54) rfl) (by decide) rfl (by decide) (Nat.le_of_ble_eq_true rfl) (Nat.le_of_ble_eq_true rfl) (MW.run gd_X5_init [30, 38, 46, 54, 62, 70, 88, 96, 104] 24 ?_)
  simp (disch := omega) only [↓EVi, ↓EVc, ↓ft_X5_init, ↓reduceIte, ↓EV_obs, ↓EV_obn, ↓EV_ais, ↓EV_ain, mdF, mRun, List.mem_cons, List.not_mem_nil, or_false, mtab_eq, Nat.reduceEqDiff, Nat.zero_add, msw3, Nat.add_assoc, mset2, b10, b00, not_true_eq_false, not_false_eq_true, true_implies, false_implies, implies_true, and_true, true_and, Nat.le_refl, true_or, or_true, eq_self, List.length_cons, List.length_nil, Nat.reduceAdd, Nat.reduceLT, Nat.reduceLeDiff]
  refine MW.newz (K := 30) (MW.dec gd_X5_init (pc := 62) rfl) (by decide) rfl (by decide) (Nat.le_of_ble_eq_true rfl) (Nat.le_of_ble_eq_true rfl) (MW.run gd_X5_init [30, 38, 46, 54, 62, 70, 88, 96, 104] 24 ?_)
  simp (disch := omega) only [↓EVi, ↓EVc, ↓ft_X5_init, ↓reduceIte, ↓EV_obs, ↓EV_obn, ↓EV_ais, ↓EV_ain, mdF, mRun, List.mem_cons, List.not_mem_nil, or_false, mtab_eq, Nat.reduceEqDiff, Nat.zero_add, msw3, Nat.add_assoc, mset2, b10, b00, not_true_eq_false, not_false_eq_true, true_implies, false_implies, implies_true, and_true, true_and, Nat.le_refl, true_or, or_true, eq_self, List.length_cons, List.length_nil, Nat.reduceAdd, Nat.reduceLT, Nat.reduceLeDiff]
  refine MW.newi (K := 30) (MW.dec gd_X5_init (pc := 70) rfl) (by decide) rfl (by decide) (Nat.le_of_ble_eq_true rfl) (Nat.le_of_ble_eq_true rfl) (MW.run gd_X5_init [30, 38, 46, 54, 62, 70, 88, 96, 104] 24 ?_)
  simp (disch := omega) only [↓EVi, ↓EVc, ↓ft_X5_init, ↓reduceIte, ↓EV_obs, ↓EV_obn, ↓EV_ais, ↓EV_ain, mdF, mRun, List.mem_cons, List.not_mem_nil, or_false, mtab_eq, Nat.reduceEqDiff, Nat.zero_add, msw3, Nat.add_assoc, mset2, b10, b00, not_true_eq_false, not_false_eq_true, true_implies, false_implies, implies_true, and_true, true_and, Nat.le_refl, true_or, or_true, eq_self, List.length_cons, List.length_nil, Nat.reduceAdd, Nat.reduceLT, Nat.reduceLeDiff]
  refine MW.newi (K := 15) (MW.dec gd_X5_init (pc := 88) rfl) (by decide) rfl (by decide) (Nat.le_of_ble_eq_true rfl) (Nat.le_of_ble_eq_true rfl) (MW.run gd_X5_init [30, 38, 46, 54, 62, 70, 88, 96, 104] 24 ?_)
  simp (disch := omega) only [↓EVi, ↓EVc, ↓ft_X5_init, ↓reduceIte, ↓EV_obs, ↓EV_obn, ↓EV_ais, ↓EV_ain, mdF, mRun, List.mem_cons, List.not_mem_nil, or_false, mtab_eq, Nat.reduceEqDiff, Nat.zero_add, msw3, Nat.add_assoc, mset2, b10, b00, not_true_eq_false, not_false_eq_true, true_implies, false_implies, implies_true, and_true, true_and, Nat.le_refl, true_or, or_true, eq_self, List.length_cons, List.length_nil, Nat.reduceAdd, Nat.reduceLT, Nat.reduceLeDiff]
  refine MW.newi (K := 15) (MW.dec gd_X5_init (pc := 96) rfl) (by decide) rfl (by decide) (Nat.le_of_ble_eq_true rfl) (Nat.le_of_ble_eq_true rfl) (MW.run gd_X5_init [30, 38, 46, 54, 62, 70, 88, 96, 104] 24 ?_)
  simp (disch := omega) only [↓EVi, ↓EVc, ↓ft_X5_init, ↓reduceIte, ↓EV_obs, ↓EV_obn, ↓EV_ais, ↓EV_ain, mdF, mRun, List.mem_cons, List.not_mem_nil, or_false, mtab_eq, Nat.reduceEqDiff, Nat.zero_add, msw3, Nat.add_assoc, mset2, b10, b00, not_true_eq_false, not_false_eq_true, true_implies, false_implies, implies_true, and_true, true_and, Nat.le_refl, true_or, or_true, eq_self, List.length_cons, List.length_nil, Nat.reduceAdd, Nat.reduceLT, Nat.reduceLeDiff]
  refine MW.newi (K := 15) (MW.dec gd_X5_init (pc := 104) rfl) (by decide) rfl (by decide) (Nat.le_of_ble_eq_true rfl) (Nat.le_of_ble_eq_true rfl) (MW.run gd_X5_init [30, 38, 46, 54, 62, 70, 88, 96, 104] 24 ?_)
  simp (disch := omega) only [↓EVi, ↓EVc, ↓ft_X5_init, ↓reduceIte, ↓EV_obs, ↓EV_obn, ↓EV_ais, ↓EV_ain, mdF, mRun, List.mem_cons, List.not_mem_nil, or_false, mtab_eq, Nat.reduceEqDiff, Nat.zero_add, msw3, Nat.add_assoc, mset2, b10, b00, not_true_eq_false, not_false_eq_true, true_implies, false_implies, implies_true, and_true, true_and, Nat.le_refl, true_or, or_true, eq_self, List.length_cons, List.length_nil, Nat.reduceAdd, Nat.reduceLT, Nat.reduceLeDiff]
  refine hp _ ⟨wo, 0, 0, fun _ _ => 0, fun _ _ => 0, ?_, ?_, fun i hi => ?_, fun k hk => ?_⟩ (fun q h1 h2 => ?_)
  · simp (disch := omega) only [mset_same, mset_ne]
  · simp (disch := omega) only [mset_same, mset_ne]
    exact r5
  · simp (disch := omega) only [mset_same, mset_ne]
    exact rr _ (by omega) (by omega)
  · rcases (by omega : k = 0 ∨ k = 1 ∨ k = 2 ∨ k = 3 ∨ k = 4 ∨ k = 5 ∨ k = 6 ∨ k = 7 ∨ k = 8) with rfl | rfl | rfl | rfl | rfl | rfl | rfl | rfl | rfl
    · show _ = (some (.inl (gC G 0, 30, .inl (fun _ => 0))) : Option va_E)
      simp (disch := omega) only [mset_same, mset_ne, Nat.add_zero]
    · show _ = (some (.inl (gC G 0, 30, .inl (fun _ => 0))) : Option va_E)
      simp (disch := omega) only [mset_same, mset_ne, Nat.add_assoc, Nat.reduceAdd]
    · show _ = (some (.inl (gC G 2, 30, .inl (fun _ => 0))) : Option va_E)
      simp (disch := omega) only [mset_same, mset_ne, Nat.add_assoc, Nat.reduceAdd]
    · show _ = (some (.inl (gC G 0, 30, .inl (fun _ => 0))) : Option va_E)
      simp (disch := omega) only [mset_same, mset_ne, Nat.add_assoc, Nat.reduceAdd]
    · show _ = (some (.inl (gC G 2, 30, .inl (fun _ => 0))) : Option va_E)
      simp (disch := omega) only [mset_same, mset_ne, Nat.add_assoc, Nat.reduceAdd]
    · show _ = (some (.inl (gC G 0, 30, .inl (fun _ => 0))) : Option va_E)
      simp (disch := omega) only [mset_same, mset_ne, Nat.add_assoc, Nat.reduceAdd]
    · show _ = (some (.inl (gC G 0, 15, .inl (fun _ => 0))) : Option va_E)
      simp (disch := omega) only [mset_same, mset_ne, Nat.add_assoc, Nat.reduceAdd]
    · show _ = (some (.inl (gC G 0, 15, .inl (fun _ => 0))) : Option va_E)
      simp (disch := omega) only [mset_same, mset_ne, Nat.add_assoc, Nat.reduceAdd]
    · show _ = (some (.inl (gC G 0, 15, .inl (fun _ => 0))) : Option va_E)
      simp (disch := omega) only [mset_same, mset_ne, Nat.add_assoc, Nat.reduceAdd]
  · simp (disch := omega) only [mset_ne]
set_option maxRecDepth 10000 in
theorem c_Ways_init {W : Nat} (hd : 2 ≤ d) (h0 : h W = some (.inr (5, [.null, .null, .null, .null, .null, .null, .null, .null, .int 0, .int 0, .null, .null, .null])))
    (hp : ∀ h', WA h' G W → mKeep h h' W (W + 45) → post none h') : MC G MX5_init d 45 663 [.ref W] h (W + 1) post := by
  have hd1 : 1 ≤ d := by omega
  refine MC.of (L0 := [some (.ref W)]) gd_X5_init (Nat.le_of_ble_eq_true rfl) rfl (MW.run gd_X5_init [5, 20, 24] 24 ?_)
  simp (disch := omega) only [↓EVi, ↓EVc, ↓ft_X5_init, ↓reduceIte, ↓EV_obs, ↓EV_obn, ↓EV_ais, ↓EV_ain, ↓EV_ob h0, mdF, mRun, List.mem_cons, List.not_mem_nil, or_false, mtab_eq, Nat.reduceEqDiff, Nat.zero_add, hd1, mset2, b10, b00, not_true_eq_false, not_false_eq_true, true_implies, false_implies, implies_true, and_true, true_and, Nat.le_refl, true_or, or_true, eq_self, List.length_cons, List.length_nil, Nat.reduceAdd, Nat.reduceLT, Nat.reduceLeDiff]
  refine MW.new (ci := 0) (fs := [.null, .null, .null, .int 0, .int 0]) (MW.dec gd_X5_init (pc := 5) rfl) rfl nwL.1 nwW.1.1 nwW.1.2 nd0 (Nat.le_of_ble_eq_true rfl) (Nat.le_of_ble_eq_true rfl) (MW.run gd_X5_init [5, 20, 24] 24 ?_)
  simp (disch := omega) only [↓EVi, ↓EVc, ↓ft_X5_init, ↓reduceIte, ↓EV_obs, ↓EV_obn, ↓EV_ais, ↓EV_ain, mdF, mRun, List.mem_cons, List.not_mem_nil, or_false, mtab_eq, Nat.reduceEqDiff, Nat.zero_add, hd1, mc0, zc, zs, Nat.add_assoc, mset2, b10, b00, not_true_eq_false, not_false_eq_true, true_implies, false_implies, implies_true, and_true, true_and, Nat.le_refl, true_or, or_true, eq_self, List.length_cons, List.length_nil, Nat.reduceAdd, Nat.reduceLT, Nat.reduceLeDiff]
  refine c_Front_init (F := W + 1) (by omega) mset_same (fun h1 hF1 hk1 => ?_)
  have o1 : h1 W = some (.inr (5, [.null, .null, .null, .null, .null, .null, .null, .null, .int 0, .int 0, .null, .null, .null])) := by
    rw [hk1 W (by omega), mset_ne (by omega)]
    exact h0
  simp (disch := omega) only [↓EVi, ↓EVc, ↓ft_X5_init, ↓reduceIte, ↓EV_obs, ↓EV_obn, ↓EV_ais, ↓EV_ain, ↓EV_ob o1, mdF, mRun, List.mem_cons, List.not_mem_nil, or_false, mtab_eq, Nat.reduceEqDiff, Nat.zero_add, hd1, mc0, zc, zs, Nat.add_assoc, mset2, b10, b00, not_true_eq_false, not_false_eq_true, true_implies, false_implies, implies_true, and_true, true_and, Nat.le_refl, true_or, or_true, eq_self, List.length_cons, List.length_nil, Nat.reduceAdd, Nat.reduceLT, Nat.reduceLeDiff]
  refine MW.mnew (MW.dec gd_X5_init (pc := 20) rfl) nwL.2.1 (Nat.le_of_ble_eq_true rfl) (Nat.le_of_ble_eq_true rfl) ?_
  refine c_Ways_2 (W := W) (wo := W + 1) ?_ mrows_at (fun q h1 h2 => mrows_in (by omega) (by omega)) (fun h' hW hk => hp h' hW (fun q hq => ?_))
  · rw [mrows_out (by omega)]
    exact mset_same
  · rw [hk q (by omega) (by omega), mrows_out (by omega), mset_ne (by omega), hk1 q (by omega), mset_ne (by omega)]
set_option maxRecDepth 10000 in
theorem c_Sw_2 {Q qo : Nat} {h2 : mH} (w0 : h2 Q = some (.inr (3, [.ref qo, .null, .null, .null, .int 0, .int 0, .int 0])))
    (r5 : h2 (Q + 5) = some (.inl (gC G 3, 31, .inr (.inr (.inr (.inr (fun i => some (Q + 5 + 1 + i)))))))) (rr : ∀ q, Q + 6 ≤ q → q < Q + 37 → h2 q = some (.inl (gC G 0, 10, .inl (fun _ => 0))))
    (hp : ∀ h', SA h' G Q → (∀ q, q ≠ Q → (q < Q + 37 ∨ Q + 38 < q) → h' q = h2 q) → post none h') : MW G MX3_init (mz G d 38 484 post) 24 [some (.ref Q)] [.ref (Q + 5), .ref Q] h2 (Q + 37, 36, 437) := by
  have z01 : ((0 : Int32) = 0 ∨ (0 : Int32) = 1) = True := eq_true (Or.inl rfl)
  refine MW.run gd_X3_init [30, 38] 24 ?_
  simp (disch := omega) only [↓EVi, ↓EVc, ↓ft_X3_init, ↓reduceIte, ↓EV_obs, ↓EV_obn, ↓EV_ais, ↓EV_ain, ↓EV_ob w0, mdF, mRun, List.mem_cons, List.not_mem_nil, or_false, mtab_eq, Nat.reduceEqDiff, Nat.zero_add, msw3, Nat.add_assoc, mset2, b10, b00, not_true_eq_false, not_false_eq_true, true_implies, false_implies, implies_true, and_true, true_and, Nat.le_refl, true_or, or_true, eq_self, List.length_cons, List.length_nil, Nat.reduceAdd, Nat.reduceLT, Nat.reduceLeDiff]
  refine MW.newz (K := 30) (MW.dec gd_X3_init (pc := 30) rfl) (by decide) rfl (by decide) (Nat.le_of_ble_eq_true rfl) (Nat.le_of_ble_eq_true rfl) (MW.run gd_X3_init [30, 38] 24 ?_)
  simp (disch := omega) only [↓EVi, ↓EVc, ↓ft_X3_init, ↓reduceIte, ↓EV_obs, ↓EV_obn, ↓EV_ais, ↓EV_ain, mdF, mRun, List.mem_cons, List.not_mem_nil, or_false, mtab_eq, Nat.reduceEqDiff, Nat.zero_add, msw3, Nat.add_assoc, mset2, b10, b00, not_true_eq_false, not_false_eq_true, true_implies, false_implies, implies_true, and_true, true_and, Nat.le_refl, true_or, or_true, eq_self, List.length_cons, List.length_nil, Nat.reduceAdd, Nat.reduceLT, Nat.reduceLeDiff]
  refine MW.newi (K := 13) (MW.dec gd_X3_init (pc := 38) rfl) (by decide) rfl (by decide) (Nat.le_of_ble_eq_true rfl) (Nat.le_of_ble_eq_true rfl) (MW.run gd_X3_init [30, 38] 24 ?_)
  simp (disch := omega) only [↓EVi, ↓EVc, ↓ft_X3_init, ↓reduceIte, ↓EV_obs, ↓EV_obn, ↓EV_ais, ↓EV_ain, mdF, mRun, List.mem_cons, List.not_mem_nil, or_false, mtab_eq, Nat.reduceEqDiff, Nat.zero_add, msw3, Nat.add_assoc, z01, mset2, b10, b00, not_true_eq_false, not_false_eq_true, true_implies, false_implies, implies_true, and_true, true_and, Nat.le_refl, true_or, or_true, eq_self, List.length_cons, List.length_nil, Nat.reduceAdd, Nat.reduceLT, Nat.reduceLeDiff]
  refine hp _ ⟨qo, 0, 0, 0, fun _ _ => 0, fun _ => 0, fun _ => 0, ?_, ?_, fun i hi => ?_, ?_, ?_⟩ (fun q h1 h2 => ?_)
  · simp (disch := omega) only [mset_same, mset_ne]
  · simp (disch := omega) only [mset_same, mset_ne]
    exact r5
  · simp (disch := omega) only [mset_same, mset_ne]
    exact rr _ (by omega) (by omega)
  · simp (disch := omega) only [mset_same, mset_ne]
  · simp (disch := omega) only [mset_same, mset_ne]
  · simp (disch := omega) only [mset_ne]
set_option maxRecDepth 10000 in
theorem c_Sw_init {Q : Nat} (hd : 2 ≤ d) (h0 : h Q = some (.inr (3, [.null, .null, .null, .null, .int 0, .int 0, .int 0])))
    (hp : ∀ h', SA h' G Q → mKeep h h' Q (Q + 38) → post none h') : MC G MX3_init d 38 484 [.ref Q] h (Q + 1) post := by
  have hd1 : 1 ≤ d := by omega
  refine MC.of (L0 := [some (.ref Q)]) gd_X3_init (Nat.le_of_ble_eq_true rfl) rfl (MW.run gd_X3_init [5, 20, 24] 24 ?_)
  simp (disch := omega) only [↓EVi, ↓EVc, ↓ft_X3_init, ↓reduceIte, ↓EV_obs, ↓EV_obn, ↓EV_ais, ↓EV_ain, ↓EV_ob h0, mdF, mRun, List.mem_cons, List.not_mem_nil, or_false, mtab_eq, Nat.reduceEqDiff, Nat.zero_add, hd1, mset2, b10, b00, not_true_eq_false, not_false_eq_true, true_implies, false_implies, implies_true, and_true, true_and, Nat.le_refl, true_or, or_true, eq_self, List.length_cons, List.length_nil, Nat.reduceAdd, Nat.reduceLT, Nat.reduceLeDiff]
  refine MW.new (ci := 0) (fs := [.null, .null, .null, .int 0, .int 0]) (MW.dec gd_X3_init (pc := 5) rfl) rfl nwL.2.2.1 nwW.1.1 nwW.1.2 nd0 (Nat.le_of_ble_eq_true rfl) (Nat.le_of_ble_eq_true rfl) (MW.run gd_X3_init [5, 20, 24] 24 ?_)
  simp (disch := omega) only [↓EVi, ↓EVc, ↓ft_X3_init, ↓reduceIte, ↓EV_obs, ↓EV_obn, ↓EV_ais, ↓EV_ain, mdF, mRun, List.mem_cons, List.not_mem_nil, or_false, mtab_eq, Nat.reduceEqDiff, Nat.zero_add, hd1, mc0, zc, zs, Nat.add_assoc, mset2, b10, b00, not_true_eq_false, not_false_eq_true, true_implies, false_implies, implies_true, and_true, true_and, Nat.le_refl, true_or, or_true, eq_self, List.length_cons, List.length_nil, Nat.reduceAdd, Nat.reduceLT, Nat.reduceLeDiff]
  refine c_Front_init (F := Q + 1) (by omega) mset_same (fun h1 hF1 hk1 => ?_)
  have o1 : h1 Q = some (.inr (3, [.null, .null, .null, .null, .int 0, .int 0, .int 0])) := by
    rw [hk1 Q (by omega), mset_ne (by omega)]
    exact h0
  simp (disch := omega) only [↓EVi, ↓EVc, ↓ft_X3_init, ↓reduceIte, ↓EV_obs, ↓EV_obn, ↓EV_ais, ↓EV_ain, ↓EV_ob o1, mdF, mRun, List.mem_cons, List.not_mem_nil, or_false, mtab_eq, Nat.reduceEqDiff, Nat.zero_add, hd1, mc0, zc, zs, Nat.add_assoc, mset2, b10, b00, not_true_eq_false, not_false_eq_true, true_implies, false_implies, implies_true, and_true, true_and, Nat.le_refl, true_or, or_true, eq_self, List.length_cons, List.length_nil, Nat.reduceAdd, Nat.reduceLT, Nat.reduceLeDiff]
  refine MW.mnew (MW.dec gd_X3_init (pc := 20) rfl) nwL.2.2.2 (Nat.le_of_ble_eq_true rfl) (Nat.le_of_ble_eq_true rfl) ?_
  refine c_Sw_2 (Q := Q) (qo := Q + 1) ?_ mrows_at (fun q h1 h2 => mrows_in (by omega) (by omega)) (fun h' hW hk => hp h' hW (fun q hq => ?_))
  · rw [mrows_out (by omega)]
    exact mset_same
  · rw [hk q (by omega) (by omega), mrows_out (by omega), mset_ne (by omega), hk1 q (by omega), mset_ne (by omega)]
end CTR2
