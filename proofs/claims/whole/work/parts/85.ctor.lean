/-! constructors of the model and of the class's parts -/
theorem msw3 {h : mH} {a b : Nat} {x y z : va_E} (n : b ≠ a) : mset (mset (mset h a x) b y) a z = mset (mset h b y) a z := by
  funext q
  by_cases c1 : q = a
  · rw [c1, mset_same, mset_same]
  · rw [mset_ne c1, mset_ne c1]
    by_cases c2 : q = b
    · rw [c2, mset_same, mset_same]
    · rw [mset_ne c2, mset_ne c2, mset_ne c1]
theorem zc {G : mG} {d mc ms : Nat} {post : Option Value → mH → Prop} : (mz G d mc ms post).1.cells = mc := rfl
theorem zs {G : mG} {d mc ms : Nat} {post : Option Value → mH → Prop} : (mz G d mc ms post).1.slots = ms := rfl
theorem rc_ {d mc ms : Nat} : (mRm d mc ms).cells = mc := rfl
theorem rs_ {d mc ms : Nat} : (mRm d mc ms).slots = ms := rfl
section CTR
variable {G : mG} {d : Nat} {h : mH} {post : Option Value → mH → Prop}
set_option maxRecDepth 10000 in
theorem c_Patch_init {P : Nat} (hd : 1 ≤ d) (h0 : h P = some (.inr (1, [.null, .null, .int 0, .int 0])))
    (hp : ∀ h', PA h' G P → mKeep h h' P (P + 2) → post none h') : MC G MX1_init d 2 6 [.ref P] h (P + 1) post := by
  refine MC.of (L0 := [some (.ref P)]) gd_X1_init (Nat.le_of_ble_eq_true rfl) rfl (MW.run gd_X1_init [6, 13] 24 ?_)
  simp (disch := omega) only [↓EVi, ↓EVc, ↓ft_X1_init, ↓reduceIte, ↓EV_obs, ↓EV_obn, ↓EV_ais, ↓EV_ain, ↓EV_ob h0, mdF, mRun, List.mem_cons, List.not_mem_nil, or_false, mtab_eq, Nat.reduceEqDiff, Nat.zero_add, hd, msw3, Nat.add_assoc, mset2, b10, b00, not_true_eq_false, not_false_eq_true, true_implies, false_implies, implies_true, and_true, true_and, Nat.le_refl, true_or, or_true, eq_self, List.length_cons, List.length_nil, Nat.reduceAdd, Nat.reduceLT, Nat.reduceLeDiff]
  refine MW.newi (K := 3) (MW.dec gd_X1_init (pc := 6) rfl) (by decide) rfl (by decide) (Nat.le_of_ble_eq_true rfl) (Nat.le_of_ble_eq_true rfl) (MW.run gd_X1_init [6, 13] 26 ?_)
  simp (disch := omega) only [↓EVi, ↓EVc, ↓ft_X1_init, ↓reduceIte, ↓EV_obs, ↓EV_obn, ↓EV_ais, ↓EV_ain, ↓EV_ob h0, mdF, mRun, List.mem_cons, List.not_mem_nil, or_false, mtab_eq, Nat.reduceEqDiff, Nat.zero_add, hd, msw3, Nat.add_assoc, mset2, b10, b00, not_true_eq_false, not_false_eq_true, true_implies, false_implies, implies_true, and_true, true_and, Nat.le_refl, true_or, or_true, eq_self, List.length_cons, List.length_nil, Nat.reduceAdd, Nat.reduceLT, Nat.reduceLeDiff]
  refine MW.newi (K := 3) (MW.dec gd_X1_init (pc := 13) rfl) (by decide) rfl (by decide) (Nat.le_of_ble_eq_true rfl) (Nat.le_of_ble_eq_true rfl) (MW.run gd_X1_init [6, 13] 26 ?_)
  simp (disch := omega) only [↓EVi, ↓EVc, ↓ft_X1_init, ↓reduceIte, ↓EV_obs, ↓EV_obn, ↓EV_ais, ↓EV_ain, ↓EV_ob h0, mdF, mRun, List.mem_cons, List.not_mem_nil, or_false, mtab_eq, Nat.reduceEqDiff, Nat.zero_add, hd, msw3, Nat.add_assoc, mset2, b10, b00, not_true_eq_false, not_false_eq_true, true_implies, false_implies, implies_true, and_true, true_and, Nat.le_refl, true_or, or_true, eq_self, List.length_cons, List.length_nil, Nat.reduceAdd, Nat.reduceLT, Nat.reduceLeDiff]
  refine hp _ ⟨fun _ => 0, fun _ => 0, 0, 0, ?_⟩ (fun q hq => ?_)
  · simp (disch := omega) only [PatchC, mset_same, mset_ne, and_self]
  · simp (disch := omega) only [mset_ne]
set_option maxRecDepth 10000 in
theorem c_Sheet_init {s : Nat} (hd : 1 ≤ d) (h0 : h s = some (.inr (2, [.null, .int 0, .int 0])))
    (hp : ∀ h', SheetR h' G s (-4, 0, fun _ => 0) → mKeep h h' s (s + 1) → post none h') : MC G MX2_init d 1 62 [.ref s] h (s + 1) post := by
  refine MC.of (L0 := [some (.ref s)]) gd_X2_init (Nat.le_of_ble_eq_true rfl) rfl (MW.run gd_X2_init [7] 24 ?_)
  simp (disch := omega) only [↓EVi, ↓EVc, ↓ft_X2_init, ↓reduceIte, ↓EV_obs, ↓EV_obn, ↓EV_ais, ↓EV_ain, ↓EV_ob h0, mdF, mRun, List.mem_cons, List.not_mem_nil, or_false, mtab_eq, Nat.reduceEqDiff, Nat.zero_add, hd, msw3, Nat.add_assoc, mset2, b10, b00, not_true_eq_false, not_false_eq_true, true_implies, false_implies, implies_true, and_true, true_and, Nat.le_refl, true_or, or_true, eq_self, List.length_cons, List.length_nil, Nat.reduceAdd, Nat.reduceLT, Nat.reduceLeDiff]
  refine MW.newi (K := 62) (MW.dec gd_X2_init (pc := 7) rfl) (by decide) rfl (by decide) (Nat.le_of_ble_eq_true rfl) (Nat.le_of_ble_eq_true rfl) (MW.run gd_X2_init [7] 26 ?_)
  simp (disch := omega) only [↓EVi, ↓EVc, ↓ft_X2_init, ↓reduceIte, ↓EV_obs, ↓EV_obn, ↓EV_ais, ↓EV_ain, ↓EV_ob h0, mdF, mRun, List.mem_cons, List.not_mem_nil, or_false, mtab_eq, Nat.reduceEqDiff, Nat.zero_add, hd, msw3, Nat.add_assoc, mset2, b10, b00, not_true_eq_false, not_false_eq_true, true_implies, false_implies, implies_true, and_true, true_and, Nat.le_refl, true_or, or_true, eq_self, List.length_cons, List.length_nil, Nat.reduceAdd, Nat.reduceLT, Nat.reduceLeDiff]
  refine hp _ ⟨fun _ => 0, ?_, ?_, fun _ _ => rfl⟩ (fun q hq => ?_)
  · show _ = (some (.inr (2, [.ref (s + 1), .int (-1), .int 0])) : Option va_E)
    simp (disch := omega) only [mset_same, mset_ne]
  · simp (disch := omega) only [mset_same, mset_ne]
  · simp (disch := omega) only [mset_ne]
set_option maxRecDepth 10000 in
theorem c_Tape_init {T : Nat} (hd : 1 ≤ d) (h0 : h T = some (.inr (4, [.null, .int 0, .int 0, .int 0, .int 0, .int 0])))
    (hp : ∀ h', TapeR h' G T [] → mKeep h h' T (T + 1) → post none h') : MC G MX4_init d 1 120 [.ref T] h (T + 1) post := by
  refine MC.of (L0 := [some (.ref T)]) gd_X4_init (Nat.le_of_ble_eq_true rfl) rfl (MW.run gd_X4_init [7] 24 ?_)
  simp (disch := omega) only [↓EVi, ↓EVc, ↓ft_X4_init, ↓reduceIte, ↓EV_obs, ↓EV_obn, ↓EV_ais, ↓EV_ain, ↓EV_ob h0, mdF, mRun, List.mem_cons, List.not_mem_nil, or_false, mtab_eq, Nat.reduceEqDiff, Nat.zero_add, hd, msw3, Nat.add_assoc, mset2, b10, b00, not_true_eq_false, not_false_eq_true, true_implies, false_implies, implies_true, and_true, true_and, Nat.le_refl, true_or, or_true, eq_self, List.length_cons, List.length_nil, Nat.reduceAdd, Nat.reduceLT, Nat.reduceLeDiff]
  refine MW.newb (K := 120) (MW.dec gd_X4_init (pc := 7) rfl) (by decide) rfl (by decide) (Nat.le_of_ble_eq_true rfl) (Nat.le_of_ble_eq_true rfl) (MW.run gd_X4_init [7] 26 ?_)
  simp (disch := omega) only [↓EVi, ↓EVc, ↓ft_X4_init, ↓reduceIte, ↓EV_obs, ↓EV_obn, ↓EV_ais, ↓EV_ain, ↓EV_ob h0, mdF, mRun, List.mem_cons, List.not_mem_nil, or_false, mtab_eq, Nat.reduceEqDiff, Nat.zero_add, hd, msw3, Nat.add_assoc, mset2, b10, b00, not_true_eq_false, not_false_eq_true, true_implies, false_implies, implies_true, and_true, true_and, Nat.le_refl, true_or, or_true, eq_self, List.length_cons, List.length_nil, Nat.reduceAdd, Nat.reduceLT, Nat.reduceLeDiff]
  refine hp _ ⟨fun _ => 0, 0, 0, 0, 0, ⟨?_, ?_⟩, fun i hi => absurd hi (Nat.not_lt_zero i)⟩ (fun q hq => ?_)
  · show _ = (some (.inr (4, [.ref (T + 1), .int 0, .int 0, .int 0, .int 0, .int 0])) : Option va_E)
    simp (disch := omega) only [mset_same, mset_ne]
  · simp (disch := omega) only [mset_same, mset_ne]
  · simp (disch := omega) only [mset_ne]
/-- the state at first -/
def AS0 : AS := ([], [], 0, fun _ => (-4, 0, fun _ => 0))
set_option maxRecDepth 10000 in
theorem c_Model_init {M : Nat} (hd : 1 ≤ d) (h0 : h M = some (.inr (7, [.int 0, .null, .null, .null, .int 0, .null, .null, .null, .int 0, .int 0, .int 0, .int 0, .int 0, .int 0, .int 0, .int 0, .int 0, .int 0, .null, .null, .null, .null, .null, .null, .int 0, .null, .null, .null, .null, .null])))
    (hp : ∀ h', MR h' G M AS0 → mKeep h h' M (M + 17) → post none h') : MC G MX7_init d 17 2100 [.ref M] h (M + 1) post := by
  have k0 : (0 : Int32).toNatClampNeg = 0 := rfl
  have k1 : (1 : Int32).toNatClampNeg = 1 := rfl
  have k2 : (2 : Int32).toNatClampNeg = 2 := rfl
  have k3 : (3 : Int32).toNatClampNeg = 3 := rfl
  have v0 : vp_in 0 4 := by unfold vp_in; decide
  have v1 : vp_in 1 4 := by unfold vp_in; decide
  have v2 : vp_in 2 4 := by unfold vp_in; decide
  have v3 : vp_in 3 4 := by unfold vp_in; decide
  refine MC.of (L0 := [some (.ref M)]) gd_X7_init (Nat.le_of_ble_eq_true rfl) rfl (MW.run gd_X7_init [7, 16, 25, 33, 41, 49, 56, 83, 92, 101, 110, 119, 127, 135, 143, 151, 159] 24 ?_)
  simp (disch := omega) only [↓EVi, ↓EVc, ↓ft_X7_init, ↓reduceIte, ↓EV_obs, ↓EV_obn, ↓EV_ais, ↓EV_ain, ↓EV_ob h0, mdF, mRun, List.mem_cons, List.not_mem_nil, or_false, mtab_eq, Nat.reduceEqDiff, Nat.zero_add, hd, msw3, Nat.add_assoc, mset2, b10, b00, not_true_eq_false, not_false_eq_true, true_implies, false_implies, implies_true, and_true, true_and, Nat.le_refl, true_or, or_true, eq_self, List.length_cons, List.length_nil, Nat.reduceAdd, Nat.reduceLT, Nat.reduceLeDiff]
  refine MW.newi (K := 8) (MW.dec gd_X7_init (pc := 7) rfl) (by decide) rfl (by decide) (Nat.le_of_ble_eq_true rfl) (Nat.le_of_ble_eq_true rfl) (MW.run gd_X7_init [7, 16, 25, 33, 41, 49, 56, 83, 92, 101, 110, 119, 127, 135, 143, 151, 159] 26 ?_)
  simp (disch := omega) only [↓EVi, ↓EVc, ↓ft_X7_init, ↓reduceIte, ↓EV_obs, ↓EV_obn, ↓EV_ais, ↓EV_ain, ↓EV_ob h0, mdF, mRun, List.mem_cons, List.not_mem_nil, or_false, mtab_eq, Nat.reduceEqDiff, Nat.zero_add, hd, msw3, Nat.add_assoc, mset2, b10, b00, not_true_eq_false, not_false_eq_true, true_implies, false_implies, implies_true, and_true, true_and, Nat.le_refl, true_or, or_true, eq_self, List.length_cons, List.length_nil, Nat.reduceAdd, Nat.reduceLT, Nat.reduceLeDiff]
  refine MW.newi (K := 240) (MW.dec gd_X7_init (pc := 16) rfl) (by decide) rfl (by decide) (Nat.le_of_ble_eq_true rfl) (Nat.le_of_ble_eq_true rfl) (MW.run gd_X7_init [7, 16, 25, 33, 41, 49, 56, 83, 92, 101, 110, 119, 127, 135, 143, 151, 159] 26 ?_)
  simp (disch := omega) only [↓EVi, ↓EVc, ↓ft_X7_init, ↓reduceIte, ↓EV_obs, ↓EV_obn, ↓EV_ais, ↓EV_ain, ↓EV_ob h0, mdF, mRun, List.mem_cons, List.not_mem_nil, or_false, mtab_eq, Nat.reduceEqDiff, Nat.zero_add, hd, msw3, Nat.add_assoc, mset2, b10, b00, not_true_eq_false, not_false_eq_true, true_implies, false_implies, implies_true, and_true, true_and, Nat.le_refl, true_or, or_true, eq_self, List.length_cons, List.length_nil, Nat.reduceAdd, Nat.reduceLT, Nat.reduceLeDiff]
  refine MW.newi (K := 240) (MW.dec gd_X7_init (pc := 25) rfl) (by decide) rfl (by decide) (Nat.le_of_ble_eq_true rfl) (Nat.le_of_ble_eq_true rfl) (MW.run gd_X7_init [7, 16, 25, 33, 41, 49, 56, 83, 92, 101, 110, 119, 127, 135, 143, 151, 159] 26 ?_)
  simp (disch := omega) only [↓EVi, ↓EVc, ↓ft_X7_init, ↓reduceIte, ↓EV_obs, ↓EV_obn, ↓EV_ais, ↓EV_ain, ↓EV_ob h0, mdF, mRun, List.mem_cons, List.not_mem_nil, or_false, mtab_eq, Nat.reduceEqDiff, Nat.zero_add, hd, msw3, Nat.add_assoc, mset2, b10, b00, not_true_eq_false, not_false_eq_true, true_implies, false_implies, implies_true, and_true, true_and, Nat.le_refl, true_or, or_true, eq_self, List.length_cons, List.length_nil, Nat.reduceAdd, Nat.reduceLT, Nat.reduceLeDiff]
  refine MW.newi (K := 64) (MW.dec gd_X7_init (pc := 33) rfl) (by decide) rfl (by decide) (Nat.le_of_ble_eq_true rfl) (Nat.le_of_ble_eq_true rfl) (MW.run gd_X7_init [7, 16, 25, 33, 41, 49, 56, 83, 92, 101, 110, 119, 127, 135, 143, 151, 159] 26 ?_)
  simp (disch := omega) only [↓EVi, ↓EVc, ↓ft_X7_init, ↓reduceIte, ↓EV_obs, ↓EV_obn, ↓EV_ais, ↓EV_ain, ↓EV_ob h0, mdF, mRun, List.mem_cons, List.not_mem_nil, or_false, mtab_eq, Nat.reduceEqDiff, Nat.zero_add, hd, msw3, Nat.add_assoc, mset2, b10, b00, not_true_eq_false, not_false_eq_true, true_implies, false_implies, implies_true, and_true, true_and, Nat.le_refl, true_or, or_true, eq_self, List.length_cons, List.length_nil, Nat.reduceAdd, Nat.reduceLT, Nat.reduceLeDiff]
  refine MW.newi (K := 64) (MW.dec gd_X7_init (pc := 41) rfl) (by decide) rfl (by decide) (Nat.le_of_ble_eq_true rfl) (Nat.le_of_ble_eq_true rfl) (MW.run gd_X7_init [7, 16, 25, 33, 41, 49, 56, 83, 92, 101, 110, 119, 127, 135, 143, 151, 159] 26 ?_)
  simp (disch := omega) only [↓EVi, ↓EVc, ↓ft_X7_init, ↓reduceIte, ↓EV_obs, ↓EV_obn, ↓EV_ais, ↓EV_ain, ↓EV_ob h0, mdF, mRun, List.mem_cons, List.not_mem_nil, or_false, mtab_eq, Nat.reduceEqDiff, Nat.zero_add, hd, msw3, Nat.add_assoc, mset2, b10, b00, not_true_eq_false, not_false_eq_true, true_implies, false_implies, implies_true, and_true, true_and, Nat.le_refl, true_or, or_true, eq_self, List.length_cons, List.length_nil, Nat.reduceAdd, Nat.reduceLT, Nat.reduceLeDiff]
  refine MW.newi (K := 120) (MW.dec gd_X7_init (pc := 49) rfl) (by decide) rfl (by decide) (Nat.le_of_ble_eq_true rfl) (Nat.le_of_ble_eq_true rfl) (MW.run gd_X7_init [7, 16, 25, 33, 41, 49, 56, 83, 92, 101, 110, 119, 127, 135, 143, 151, 159] 26 ?_)
  simp (disch := omega) only [↓EVi, ↓EVc, ↓ft_X7_init, ↓reduceIte, ↓EV_obs, ↓EV_obn, ↓EV_ais, ↓EV_ain, ↓EV_ob h0, mdF, mRun, List.mem_cons, List.not_mem_nil, or_false, mtab_eq, Nat.reduceEqDiff, Nat.zero_add, hd, msw3, Nat.add_assoc, mset2, b10, b00, not_true_eq_false, not_false_eq_true, true_implies, false_implies, implies_true, and_true, true_and, Nat.le_refl, true_or, or_true, eq_self, List.length_cons, List.length_nil, Nat.reduceAdd, Nat.reduceLT, Nat.reduceLeDiff]
  refine MW.newi (K := 4) (MW.dec gd_X7_init (pc := 56) rfl) (by decide) rfl (by decide) (Nat.le_of_ble_eq_true rfl) (Nat.le_of_ble_eq_true rfl) (MW.run gd_X7_init [7, 16, 25, 33, 41, 49, 56, 83, 92, 101, 110, 119, 127, 135, 143, 151, 159] 36 ?_)
  simp (disch := omega) only [↓EVi, ↓EVc, ↓ft_X7_init, ↓reduceIte, ↓EV_obs, ↓EV_obn, ↓EV_ais, ↓EV_ain, ↓EV_ob h0, mdF, mRun, List.mem_cons, List.not_mem_nil, or_false, mtab_eq, Nat.reduceEqDiff, Nat.zero_add, hd, msw3, Nat.add_assoc, k0, k1, k2, k3, v0, v1, v2, v3, mset2, b10, b00, not_true_eq_false, not_false_eq_true, true_implies, false_implies, implies_true, and_true, true_and, Nat.le_refl, true_or, or_true, eq_self, List.length_cons, List.length_nil, Nat.reduceAdd, Nat.reduceLT, Nat.reduceLeDiff]
  refine MW.newi (K := 4) (MW.dec gd_X7_init (pc := 83) rfl) (by decide) rfl (by decide) (Nat.le_of_ble_eq_true rfl) (Nat.le_of_ble_eq_true rfl) (MW.run gd_X7_init [7, 16, 25, 33, 41, 49, 56, 83, 92, 101, 110, 119, 127, 135, 143, 151, 159] 26 ?_)
  simp (disch := omega) only [↓EVi, ↓EVc, ↓ft_X7_init, ↓reduceIte, ↓EV_obs, ↓EV_obn, ↓EV_ais, ↓EV_ain, ↓EV_ob h0, mdF, mRun, List.mem_cons, List.not_mem_nil, or_false, mtab_eq, Nat.reduceEqDiff, Nat.zero_add, hd, msw3, Nat.add_assoc, mset2, b10, b00, not_true_eq_false, not_false_eq_true, true_implies, false_implies, implies_true, and_true, true_and, Nat.le_refl, true_or, or_true, eq_self, List.length_cons, List.length_nil, Nat.reduceAdd, Nat.reduceLT, Nat.reduceLeDiff]
  refine MW.newi (K := 248) (MW.dec gd_X7_init (pc := 92) rfl) (by decide) rfl (by decide) (Nat.le_of_ble_eq_true rfl) (Nat.le_of_ble_eq_true rfl) (MW.run gd_X7_init [7, 16, 25, 33, 41, 49, 56, 83, 92, 101, 110, 119, 127, 135, 143, 151, 159] 26 ?_)
  simp (disch := omega) only [↓EVi, ↓EVc, ↓ft_X7_init, ↓reduceIte, ↓EV_obs, ↓EV_obn, ↓EV_ais, ↓EV_ain, ↓EV_ob h0, mdF, mRun, List.mem_cons, List.not_mem_nil, or_false, mtab_eq, Nat.reduceEqDiff, Nat.zero_add, hd, msw3, Nat.add_assoc, mset2, b10, b00, not_true_eq_false, not_false_eq_true, true_implies, false_implies, implies_true, and_true, true_and, Nat.le_refl, true_or, or_true, eq_self, List.length_cons, List.length_nil, Nat.reduceAdd, Nat.reduceLT, Nat.reduceLeDiff]
  refine MW.newi (K := 310) (MW.dec gd_X7_init (pc := 101) rfl) (by decide) rfl (by decide) (Nat.le_of_ble_eq_true rfl) (Nat.le_of_ble_eq_true rfl) (MW.run gd_X7_init [7, 16, 25, 33, 41, 49, 56, 83, 92, 101, 110, 119, 127, 135, 143, 151, 159] 26 ?_)
  simp (disch := omega) only [↓EVi, ↓EVc, ↓ft_X7_init, ↓reduceIte, ↓EV_obs, ↓EV_obn, ↓EV_ais, ↓EV_ain, ↓EV_ob h0, mdF, mRun, List.mem_cons, List.not_mem_nil, or_false, mtab_eq, Nat.reduceEqDiff, Nat.zero_add, hd, msw3, Nat.add_assoc, mset2, b10, b00, not_true_eq_false, not_false_eq_true, true_implies, false_implies, implies_true, and_true, true_and, Nat.le_refl, true_or, or_true, eq_self, List.length_cons, List.length_nil, Nat.reduceAdd, Nat.reduceLT, Nat.reduceLeDiff]
  refine MW.newi (K := 310) (MW.dec gd_X7_init (pc := 110) rfl) (by decide) rfl (by decide) (Nat.le_of_ble_eq_true rfl) (Nat.le_of_ble_eq_true rfl) (MW.run gd_X7_init [7, 16, 25, 33, 41, 49, 56, 83, 92, 101, 110, 119, 127, 135, 143, 151, 159] 26 ?_)
  simp (disch := omega) only [↓EVi, ↓EVc, ↓ft_X7_init, ↓reduceIte, ↓EV_obs, ↓EV_obn, ↓EV_ais, ↓EV_ain, ↓EV_ob h0, mdF, mRun, List.mem_cons, List.not_mem_nil, or_false, mtab_eq, Nat.reduceEqDiff, Nat.zero_add, hd, msw3, Nat.add_assoc, mset2, b10, b00, not_true_eq_false, not_false_eq_true, true_implies, false_implies, implies_true, and_true, true_and, Nat.le_refl, true_or, or_true, eq_self, List.length_cons, List.length_nil, Nat.reduceAdd, Nat.reduceLT, Nat.reduceLeDiff]
  refine MW.newi (K := 310) (MW.dec gd_X7_init (pc := 119) rfl) (by decide) rfl (by decide) (Nat.le_of_ble_eq_true rfl) (Nat.le_of_ble_eq_true rfl) (MW.run gd_X7_init [7, 16, 25, 33, 41, 49, 56, 83, 92, 101, 110, 119, 127, 135, 143, 151, 159] 26 ?_)
  simp (disch := omega) only [↓EVi, ↓EVc, ↓ft_X7_init, ↓reduceIte, ↓EV_obs, ↓EV_obn, ↓EV_ais, ↓EV_ain, ↓EV_ob h0, mdF, mRun, List.mem_cons, List.not_mem_nil, or_false, mtab_eq, Nat.reduceEqDiff, Nat.zero_add, hd, msw3, Nat.add_assoc, mset2, b10, b00, not_true_eq_false, not_false_eq_true, true_implies, false_implies, implies_true, and_true, true_and, Nat.le_refl, true_or, or_true, eq_self, List.length_cons, List.length_nil, Nat.reduceAdd, Nat.reduceLT, Nat.reduceLeDiff]
  refine MW.newi (K := 15) (MW.dec gd_X7_init (pc := 127) rfl) (by decide) rfl (by decide) (Nat.le_of_ble_eq_true rfl) (Nat.le_of_ble_eq_true rfl) (MW.run gd_X7_init [7, 16, 25, 33, 41, 49, 56, 83, 92, 101, 110, 119, 127, 135, 143, 151, 159] 26 ?_)
  simp (disch := omega) only [↓EVi, ↓EVc, ↓ft_X7_init, ↓reduceIte, ↓EV_obs, ↓EV_obn, ↓EV_ais, ↓EV_ain, ↓EV_ob h0, mdF, mRun, List.mem_cons, List.not_mem_nil, or_false, mtab_eq, Nat.reduceEqDiff, Nat.zero_add, hd, msw3, Nat.add_assoc, mset2, b10, b00, not_true_eq_false, not_false_eq_true, true_implies, false_implies, implies_true, and_true, true_and, Nat.le_refl, true_or, or_true, eq_self, List.length_cons, List.length_nil, Nat.reduceAdd, Nat.reduceLT, Nat.reduceLeDiff]
  refine MW.newi (K := 15) (MW.dec gd_X7_init (pc := 135) rfl) (by decide) rfl (by decide) (Nat.le_of_ble_eq_true rfl) (Nat.le_of_ble_eq_true rfl) (MW.run gd_X7_init [7, 16, 25, 33, 41, 49, 56, 83, 92, 101, 110, 119, 127, 135, 143, 151, 159] 26 ?_)
  simp (disch := omega) only [↓EVi, ↓EVc, ↓ft_X7_init, ↓reduceIte, ↓EV_obs, ↓EV_obn, ↓EV_ais, ↓EV_ain, ↓EV_ob h0, mdF, mRun, List.mem_cons, List.not_mem_nil, or_false, mtab_eq, Nat.reduceEqDiff, Nat.zero_add, hd, msw3, Nat.add_assoc, mset2, b10, b00, not_true_eq_false, not_false_eq_true, true_implies, false_implies, implies_true, and_true, true_and, Nat.le_refl, true_or, or_true, eq_self, List.length_cons, List.length_nil, Nat.reduceAdd, Nat.reduceLT, Nat.reduceLeDiff]
  refine MW.newi (K := 15) (MW.dec gd_X7_init (pc := 143) rfl) (by decide) rfl (by decide) (Nat.le_of_ble_eq_true rfl) (Nat.le_of_ble_eq_true rfl) (MW.run gd_X7_init [7, 16, 25, 33, 41, 49, 56, 83, 92, 101, 110, 119, 127, 135, 143, 151, 159] 26 ?_)
  simp (disch := omega) only [↓EVi, ↓EVc, ↓ft_X7_init, ↓reduceIte, ↓EV_obs, ↓EV_obn, ↓EV_ais, ↓EV_ain, ↓EV_ob h0, mdF, mRun, List.mem_cons, List.not_mem_nil, or_false, mtab_eq, Nat.reduceEqDiff, Nat.zero_add, hd, msw3, Nat.add_assoc, mset2, b10, b00, not_true_eq_false, not_false_eq_true, true_implies, false_implies, implies_true, and_true, true_and, Nat.le_refl, true_or, or_true, eq_self, List.length_cons, List.length_nil, Nat.reduceAdd, Nat.reduceLT, Nat.reduceLeDiff]
  refine MW.newi (K := 10) (MW.dec gd_X7_init (pc := 151) rfl) (by decide) rfl (by decide) (Nat.le_of_ble_eq_true rfl) (Nat.le_of_ble_eq_true rfl) (MW.run gd_X7_init [7, 16, 25, 33, 41, 49, 56, 83, 92, 101, 110, 119, 127, 135, 143, 151, 159] 26 ?_)
  simp (disch := omega) only [↓EVi, ↓EVc, ↓ft_X7_init, ↓reduceIte, ↓EV_obs, ↓EV_obn, ↓EV_ais, ↓EV_ain, ↓EV_ob h0, mdF, mRun, List.mem_cons, List.not_mem_nil, or_false, mtab_eq, Nat.reduceEqDiff, Nat.zero_add, hd, msw3, Nat.add_assoc, mset2, b10, b00, not_true_eq_false, not_false_eq_true, true_implies, false_implies, implies_true, and_true, true_and, Nat.le_refl, true_or, or_true, eq_self, List.length_cons, List.length_nil, Nat.reduceAdd, Nat.reduceLT, Nat.reduceLeDiff]
  refine MW.newz (K := 30) (MW.dec gd_X7_init (pc := 159) rfl) (by decide) rfl (by decide) (Nat.le_of_ble_eq_true rfl) (Nat.le_of_ble_eq_true rfl) (MW.run gd_X7_init [7, 16, 25, 33, 41, 49, 56, 83, 92, 101, 110, 119, 127, 135, 143, 151, 159] 26 ?_)
  simp (disch := omega) only [↓EVi, ↓EVc, ↓ft_X7_init, ↓reduceIte, ↓EV_obs, ↓EV_obn, ↓EV_ais, ↓EV_ain, ↓EV_ob h0, mdF, mRun, List.mem_cons, List.not_mem_nil, or_false, mtab_eq, Nat.reduceEqDiff, Nat.zero_add, hd, msw3, Nat.add_assoc, mset2, b10, b00, not_true_eq_false, not_false_eq_true, true_implies, false_implies, implies_true, and_true, true_and, Nat.le_refl, true_or, or_true, eq_self, List.length_cons, List.length_nil, Nat.reduceAdd, Nat.reduceLT, Nat.reduceLeDiff]
  refine hp _ ⟨fun _ => 0, fun k => if k = 7 then upd (upd (upd (upd (fun _ => 0) 0 (-4)) 1 (-4)) 2 (-4)) 3 (-4) else fun _ => 0, ⟨?_, fun k h1 h2 => ?_⟩, rfl, fun f hf => absurd hf (Nat.not_lt_zero f), rfl, fun i hi => absurd hi (Nat.not_lt_zero i), rfl, fun k hk => ?_⟩ (fun q hq => ?_)
  · show _ = (some (.inr (7, mdF M (fun _ => 0))) : Option va_E)
    simp (disch := omega) only [mset_same, mset_ne, mdF]
  · rcases (by omega : k = 1 ∨ k = 2 ∨ k = 3 ∨ k = 4 ∨ k = 5 ∨ k = 6 ∨ k = 7 ∨ k = 8 ∨ k = 9 ∨ k = 10 ∨ k = 11 ∨ k = 12 ∨ k = 13 ∨ k = 14 ∨ k = 15 ∨ k = 16 ∨ k = 17) with rfl | rfl | rfl | rfl | rfl | rfl | rfl | rfl | rfl | rfl | rfl | rfl | rfl | rfl | rfl | rfl | rfl
    · show _ = (some (.inl (gC G 0, 8, .inl (fun _ => 0))) : Option va_E)
      simp (disch := omega) only [mset_same, mset_ne]
    · show _ = (some (.inl (gC G 0, 240, .inl (fun _ => 0))) : Option va_E)
      simp (disch := omega) only [mset_same, mset_ne]
    · show _ = (some (.inl (gC G 0, 240, .inl (fun _ => 0))) : Option va_E)
      simp (disch := omega) only [mset_same, mset_ne]
    · show _ = (some (.inl (gC G 0, 64, .inl (fun _ => 0))) : Option va_E)
      simp (disch := omega) only [mset_same, mset_ne]
    · show _ = (some (.inl (gC G 0, 64, .inl (fun _ => 0))) : Option va_E)
      simp (disch := omega) only [mset_same, mset_ne]
    · show _ = (some (.inl (gC G 0, 120, .inl (fun _ => 0))) : Option va_E)
      simp (disch := omega) only [mset_same, mset_ne]
    · show _ = (some (.inl (gC G 0, 4, .inl (upd (upd (upd (upd (fun _ => 0) 0 (-4)) 1 (-4)) 2 (-4)) 3 (-4)))) : Option va_E)
      simp (disch := omega) only [mset_same, mset_ne]
    · show _ = (some (.inl (gC G 0, 4, .inl (fun _ => 0))) : Option va_E)
      simp (disch := omega) only [mset_same, mset_ne]
    · show _ = (some (.inl (gC G 0, 248, .inl (fun _ => 0))) : Option va_E)
      simp (disch := omega) only [mset_same, mset_ne]
    · show _ = (some (.inl (gC G 0, 310, .inl (fun _ => 0))) : Option va_E)
      simp (disch := omega) only [mset_same, mset_ne]
    · show _ = (some (.inl (gC G 0, 310, .inl (fun _ => 0))) : Option va_E)
      simp (disch := omega) only [mset_same, mset_ne]
    · show _ = (some (.inl (gC G 0, 310, .inl (fun _ => 0))) : Option va_E)
      simp (disch := omega) only [mset_same, mset_ne]
    · show _ = (some (.inl (gC G 0, 15, .inl (fun _ => 0))) : Option va_E)
      simp (disch := omega) only [mset_same, mset_ne]
    · show _ = (some (.inl (gC G 0, 15, .inl (fun _ => 0))) : Option va_E)
      simp (disch := omega) only [mset_same, mset_ne]
    · show _ = (some (.inl (gC G 0, 15, .inl (fun _ => 0))) : Option va_E)
      simp (disch := omega) only [mset_same, mset_ne]
    · show _ = (some (.inl (gC G 0, 10, .inl (fun _ => 0))) : Option va_E)
      simp (disch := omega) only [mset_same, mset_ne]
    · show _ = (some (.inl (gC G 2, 30, .inl (fun _ => 0))) : Option va_E)
      simp (disch := omega) only [mset_same, mset_ne]
  · refine ⟨?_, rfl, fun i hi => rfl⟩
    rcases (by omega : k = 0 ∨ k = 1 ∨ k = 2 ∨ k = 3) with rfl | rfl | rfl | rfl <;> rfl
  · simp (disch := omega) only [mset_ne]
end CTR
