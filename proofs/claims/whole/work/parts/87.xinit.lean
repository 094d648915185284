/-! the class's constructor -/
section UPA
variable {G : mG} {M : mI} {Z : mZ}
/-- a counting loop that makes cells -/
theorem MW.uptoA {pc : Nat} (e : Nat) (al : Nat → mAl) (I : Nat → mL → mH → Prop) (hs : ∀ (i : Nat) (L : mL) (h : mH), i < e → I i L h → (∀ (L' : mL) (h' : mH), I (i + 1) L' h' → MW G M Z pc L' [] h' (al (i + 1))) → MW G M Z pc L [] h (al i)) (hx : ∀ (L : mL) (h : mH), I e L h → MW G M Z pc L [] h (al e)) : ∀ (i : Nat) (L : mL) (h : mH), i ≤ e → I i L h → MW G M Z pc L [] h (al i) := by
  have key : ∀ (n i : Nat) (L : mL) (h : mH), e - i = n → i ≤ e → I i L h → MW G M Z pc L [] h (al i) := by
    intro n
    induction n with
    | zero =>
      intro i L h hn hi hI
      have : i = e := by omega
      subst this
      exact hx L h hI
    | succ n ih =>
      intro i L h hn hi hI
      exact hs i L h (by omega) hI (fun L' h' hI' => ih (i + 1) L' h' (by omega) (by omega) hI')
  exact fun i L h hi hI => key (e - i) i L h rfl hi hI
/-- another picture of the same cells -/
theorem MW.weak {pc : Nat} {L : mL} {st : List Value} {h h' : mH} {al : mAl} (w : ∀ H, mP G h H → mP G h' H) (k : MW G M Z pc L st h' al) : MW G M Z pc L st h al :=
  fun p e s m args below meth c C X H locs ls hN hP hS hL => k p e s m args below meth c C X H locs ls hN (w H hP) hS hL
theorem mP_row {h : mH} {H : Heap} {x t n : Nat} {f g : Nat → Option Nat} (hx : h x = some (.inl (gC G t, n, .inr (.inr (.inr (.inr f)))))) (e : ∀ k, k < n → f k = g k) (hP : mP G h H) : mP G (mset h x (.inl (gC G t, n, .inr (.inr (.inr (.inr g)))))) H := by
  intro y ey hy
  by_cases c : y = x
  · subst c
    rw [mset_same] at hy
    cases hy
    refine ⟨(hP y _ hx).1, ?_⟩
    have h2 : H[y]? = some (vp_cell (gC G t) (n, .inr (.inr (.inr (.inr f))))) := (hP y _ hx).2
    show H[y]? = some (vp_cell _ _)
    rw [h2, vp_cell_q, vp_cell_q]
    unfold arrV
    congr 2
    apply Array.ext
    · simp
    · intro j h1 h2
      simp at h1
      simp [e j h1]
  · rw [mset_ne c] at hy
    exact hP y ey hy
end UPA
section XIN
variable {G : mG} {d B : Nat} {h h' : mH} {post : Option Value → mH → Prop}
/-- what stands behind the object, its two rows apart -/
def XI5 (h : mH) (G : mG) (B : Nat) : Prop := TapeR h G (B + 1) [] ∧ FA h G (B + 5) ∧ PA h G (B + 9) ∧ WA h G (B + 12) ∧ SA h G (B + 58)
theorem XI5_eq (hI : XI5 h G B) (e : ∀ q, B < q → q ≤ B + 96 → q ≠ B + 3 → q ≠ B + 4 → h' q = h q) : XI5 h' G B :=
  ⟨TR_eq (fun q a b => e q (by omega) (by omega) (by omega) (by omega)) hI.1, FA_eq (fun q a b => e q (by omega) (by omega) (by omega) (by omega)) hI.2.1, PA_eq (fun q a b => e q (by omega) (by omega) (by omega) (by omega)) hI.2.2.1, WA_eq (fun q a b => e q (by omega) (by omega) (by omega) (by omega)) hI.2.2.2.1, SA_eq (fun q a b => e q (by omega) (by omega) (by omega) (by omega)) hI.2.2.2.2⟩
abbrev rowR (t n : Nat) (G : mG) (f : Nat → Option Nat) : va_E := .inl (gC G t, n, .inr (.inr (.inr (.inr f))))
set_option maxRecDepth 10000 in
theorem x_init3 (hd : 2 ≤ d) {f4 f5 : Nat → Option Nat} (h0 : h B = some (.inr (6, xO B 0 0))) (hI : XI5 h G B) (r3 : h (B + 3) = some (rowR 5 4 G f5)) (e5 : ∀ k, k < 4 → f5 k = some (xS B k)) (hSh : ∀ k, k < 4 → SheetR h G (xS B k) (-4, 0, fun _ => 0)) (r4 : h (B + 4) = some (rowR 4 8 G f4))
    (hp : ∀ h', XR h' G B AS0 → (∀ q, q < B ∨ B + 136 < q → h' q = h q) → post none h') : MW G MX6_init (mz G d 136 2500 post) 114 [some (.ref B), some (.int 0)] [] h (B + 105, 104, 1671) := by
  have hd1 : 1 ≤ d := by omega
  refine MW.uptoA 8 (fun i => (B + 105 + 4 * i, 104 + 4 * i, 1671 + 96 * i)) (fun i L h1 => ∃ f, L = [some (.ref B), some (.int (nI i))] ∧ h1 (B + 4) = some (rowR 4 8 G f) ∧ (∀ k, k < i → f k = some (xF B k)) ∧ (∀ k, k < i → FA h1 G (xF B k)) ∧ (∀ q, q ≠ B + 4 → (q < B + 105 ∨ B + 136 < q) → h1 q = h q)) ?_ ?_ 0 _ _ (Nat.zero_le _) ⟨f4, rfl, r4, fun k hk => absurd hk (Nat.not_lt_zero k), fun k hk => absurd hk (Nat.not_lt_zero k), fun _ _ _ => rfl⟩
  · rintro i L h1 hi ⟨f, rfl, hr, hf, hFA, hk⟩ ih
    have o1 : h1 B = some (.inr (6, xO B 0 0)) := by rw [hk B (by omega) (by omega)]; exact h0
    have w1 : ((8 : Int32) ≤ nI i) = False := eq_false (by simp (disch := omega) only [z_nI, z_lit, z_neg, z_add, z_sub, z_mul, z_lt, z_le, z_eq, z_in, z_cl]; omega)
    have vi : vp_in (nI i) 8 := vp_in_nI (by omega) (by decide)
    have ci : (nI i).toNatClampNeg = i := nI_clamp (by omega)
    refine MW.run1 gd_X6_init [125] 12 ?_
    simp (disch := omega) only [↓EVk, ↓w_if_eq, ↓w_an_ite, ↓mEndK, ↓w_retK0, ↓w_fitK, ↓w_dupK, ↓w_dup2K, w_an_back, ↓EVd, ↓ft_X6_init, ↓reduceIte, ↓EV_obs, ↓EV_obn, ↓EV_ais, ↓EV_ain, ↓EV_ob o1, mdF, mRun, List.mem_cons, List.not_mem_nil, or_false, mtab_eq, Nat.reduceEqDiff, Nat.zero_add, xO, w1, mset2, b10, b00, not_true_eq_false, not_false_eq_true, true_implies, false_implies, implies_true, and_true, true_and, Nat.le_refl, true_or, or_true, eq_self, List.length_cons, List.length_nil, Nat.reduceAdd, Nat.reduceLT, Nat.reduceLeDiff]
    refine MW.new (ci := 0) (fs := [.null, .null, .null, .int 0, .int 0]) (MW.dec gd_X6_init (pc := 125) rfl) rfl nwX.2.2.1 nwW.1.1 nwW.1.2 nd0 (by show 104 + 4 * i + 1 ≤ 136; omega) (by show 1671 + 96 * i + 5 ≤ 2500; omega) ?_
    have c1 : 104 + 4 * i + 1 + 3 ≤ 136 := by omega
    have c2 : 1671 + 96 * i + 5 + 91 ≤ 2500 := by omega
    refine MW.run gd_X6_init [132] 8 ?_
    simp (disch := omega) only [↓EVk, ↓w_if_eq, ↓w_an_ite, ↓mEndK, ↓w_retK0, ↓w_fitK, ↓w_dupK, ↓w_dup2K, w_an_back, ↓EVd, ↓ft_X6_init, ↓reduceIte, ↓EV_obs, ↓EV_obn, ↓EV_ais, ↓EV_ain, mdF, mRun, List.mem_cons, List.not_mem_nil, or_false, mtab_eq, Nat.reduceEqDiff, Nat.zero_add, hd1, mc0, zc, zs, c1, c2, mset2, b10, b00, not_true_eq_false, not_false_eq_true, true_implies, false_implies, implies_true, and_true, true_and, Nat.le_refl, true_or, or_true, eq_self, List.length_cons, List.length_nil, Nat.reduceAdd, Nat.reduceLT, Nat.reduceLeDiff]
    refine c_Front_init (F := B + 105 + 4 * i) (by omega) mset_same (fun h2 hF2 hk2 => ?_)
    simp (disch := omega) only [↓EVk, ↓w_if_eq, ↓w_an_ite, ↓mEndK, ↓w_retK0, ↓w_fitK, ↓w_dupK, ↓w_dup2K, w_an_back, ↓EVd, ↓ft_X6_init, ↓reduceIte, ↓EV_obs, ↓EV_obn, ↓EV_ais, ↓EV_ain, mdF, mRun, List.mem_cons, List.not_mem_nil, or_false, mtab_eq, Nat.reduceEqDiff, Nat.zero_add, mset2, b10, b00, not_true_eq_false, not_false_eq_true, true_implies, false_implies, implies_true, and_true, true_and, Nat.le_refl, true_or, or_true, eq_self, List.length_cons, List.length_nil, Nat.reduceAdd, Nat.reduceLT, Nat.reduceLeDiff]
    have r2 : h2 (B + 4) = some (rowR 4 8 G f) := by rw [hk2 _ (by omega), mset_ne (by omega)]; exact hr
    refine MW.ast (t := 4) (ci := 0) r2 hF2.1 rfl rfl vi (MW.dec gd_X6_init (pc := 132) rfl) ?_
    refine MW.run gd_X6_init [114] 8 ?_
    simp (disch := omega) only [↓EVk, ↓w_if_eq, ↓w_an_ite, ↓mEndK, ↓w_retK0, ↓w_fitK, ↓w_dupK, ↓w_dup2K, w_an_back, ↓EVd, ↓ft_X6_init, ↓reduceIte, ↓EV_obs, ↓EV_obn, ↓EV_ais, ↓EV_ain, mdF, mRun, List.mem_cons, List.not_mem_nil, or_false, mtab_eq, Nat.reduceEqDiff, Nat.zero_add, nI_1, ci, mset2, b10, b00, not_true_eq_false, not_false_eq_true, true_implies, false_implies, implies_true, and_true, true_and, Nat.le_refl, true_or, or_true, eq_self, List.length_cons, List.length_nil, Nat.reduceAdd, Nat.reduceLT, Nat.reduceLeDiff]
    have eA : (B + 105 + 4 * i + 1 + 3, 104 + 4 * i + 1 + 3, 1671 + 96 * i + 5 + 91) = ((B + 105 + 4 * (i + 1), 104 + 4 * (i + 1), 1671 + 96 * (i + 1)) : mAl) := by
      refine Prod.ext ?_ (Prod.ext ?_ ?_)
      · show B + 105 + 4 * i + 1 + 3 = B + 105 + 4 * (i + 1); omega
      · show 104 + 4 * i + 1 + 3 = 104 + 4 * (i + 1); omega
      · show 1671 + 96 * i + 5 + 91 = 1671 + 96 * (i + 1); omega
    rw [eA]
    refine ih _ _ ⟨va_up f i (some (B + 105 + 4 * i)), rfl, mset_same, fun k hk' => ?_, fun k hk' => ?_, fun q h1' h2' => ?_⟩
    · by_cases c : k = i
      · rw [c, va_up_self]
        rfl
      · rw [va_up_ne _ _ c]
        exact hf k (by omega)
    · by_cases c : k = i
      · rw [c]
        exact FA_eq (fun q a b => mset_ne (by unfold xF at a; omega)) ⟨_, _, _, _, _, hF2⟩
      · refine FA_eq (fun q a b => ?_) (hFA k (by omega))
        unfold xF at a b
        rw [mset_ne (by omega), hk2 q (by omega), mset_ne (by omega)]
    · rw [mset_ne (by omega), hk2 q (by omega), mset_ne (by omega)]
      exact hk q h1' h2'
  · rintro L h1 ⟨f, rfl, hr, hf, hFA, hk⟩
    have w1 : ((8 : Int32) ≤ nI 8) = True := eq_true (by decide)
    have r3' : h1 (B + 3) = some (rowR 5 4 G f5) := by rw [hk _ (by omega) (by omega)]; exact r3
    refine MW.weak (fun _ => mP_row (g := fun k => some (xF B k)) hr hf) ?_
    refine MW.weak (fun _ => mP_row (x := B + 3) (t := 5) (n := 4) (f := f5) (g := fun k => some (xS B k)) (by rw [mset_ne (by omega)]; exact r3') e5) ?_
    refine MW.run1 gd_X6_init [] 8 ?_
    simp (disch := omega) only [↓EVk, ↓w_if_eq, ↓w_an_ite, ↓mEndK, ↓w_retK0, ↓w_fitK, ↓w_dupK, ↓w_dup2K, w_an_back, ↓EVd, ↓ft_X6_init, ↓reduceIte, ↓EV_obs, ↓EV_obn, ↓EV_ais, ↓EV_ain, mdF, mRun, List.mem_cons, List.not_mem_nil, or_false, mtab_eq, Nat.reduceEqDiff, Nat.zero_add, w1, mset2, b10, b00, not_true_eq_false, not_false_eq_true, true_implies, false_implies, implies_true, and_true, true_and, Nat.le_refl, true_or, or_true, eq_self, List.length_cons, List.length_nil, Nat.reduceAdd, Nat.reduceLT, Nat.reduceLeDiff]
    refine ⟨by omega, ?_⟩
    refine hp _ ⟨?_, ?_, ?_, ?_, ?_, ?_, ?_, ?_, fun k hk' => ?_, fun k hk' => ?_, fun k hk' => absurd hk' (Nat.not_lt_zero k)⟩ (fun q hq => ?_)
    · rw [mset_ne (by omega), mset_ne (by omega), hk B (by omega) (by omega)]
      exact h0
    · exact TR_eq (fun q a b => by rw [mset_ne (by omega), mset_ne (by omega)]; exact hk q (by omega) (by omega)) hI.1
    · exact mset_same
    · rw [mset_ne (by omega)]
      exact mset_same
    · exact FA_eq (fun q a b => by rw [mset_ne (by omega), mset_ne (by omega)]; exact hk q (by omega) (by omega)) hI.2.1
    · exact PA_eq (fun q a b => by rw [mset_ne (by omega), mset_ne (by omega)]; exact hk q (by omega) (by omega)) hI.2.2.1
    · exact WA_eq (fun q a b => by rw [mset_ne (by omega), mset_ne (by omega)]; exact hk q (by omega) (by omega)) hI.2.2.2.1
    · exact SA_eq (fun q a b => by rw [mset_ne (by omega), mset_ne (by omega)]; exact hk q (by omega) (by omega)) hI.2.2.2.2
    · refine SR_eq (fun q a b => ?_) (hSh k hk')
      unfold xS at a b
      rw [mset_ne (by omega), mset_ne (by omega)]
      exact hk q (by omega) (by omega)
    · refine FA_eq (fun q a b => ?_) (hFA k hk')
      unfold xF at a b
      rw [mset_ne (by omega), mset_ne (by omega)]
    · rw [mset_ne (by omega), mset_ne (by omega)]
      exact hk q (by omega) (by omega)
set_option maxRecDepth 10000 in
theorem x_init2 (hd : 2 ≤ d) {f4 f5 : Nat → Option Nat} (h0 : h B = some (.inr (6, xO B 0 0))) (hI : XI5 h G B) (r3 : h (B + 3) = some (rowR 5 4 G f5)) (r4 : h (B + 4) = some (rowR 4 8 G f4))
    (hp : ∀ h', XR h' G B AS0 → (∀ q, q < B ∨ B + 136 < q → h' q = h q) → post none h') : MW G MX6_init (mz G d 136 2500 post) 88 [some (.ref B), some (.int 0)] [] h (B + 97, 96, 1411) := by
  have hd1 : 1 ≤ d := by omega
  refine MW.uptoA 4 (fun i => (B + 97 + 2 * i, 96 + 2 * i, 1411 + 65 * i)) (fun i L h1 => ∃ f, L = [some (.ref B), some (.int (nI i))] ∧ h1 (B + 3) = some (rowR 5 4 G f) ∧ (∀ k, k < i → f k = some (xS B k)) ∧ (∀ k, k < i → SheetR h1 G (xS B k) (-4, 0, fun _ => 0)) ∧ (∀ q, q ≠ B + 3 → (q < B + 97 ∨ B + 104 < q) → h1 q = h q)) ?_ ?_ 0 _ _ (Nat.zero_le _) ⟨f5, rfl, r3, fun k hk => absurd hk (Nat.not_lt_zero k), fun k hk => absurd hk (Nat.not_lt_zero k), fun _ _ _ => rfl⟩
  · rintro i L h1 hi ⟨f, rfl, hr, hf, hSh, hk⟩ ih
    have o1 : h1 B = some (.inr (6, xO B 0 0)) := by rw [hk B (by omega) (by omega)]; exact h0
    have w1 : ((4 : Int32) ≤ nI i) = False := eq_false (by simp (disch := omega) only [z_nI, z_lit, z_neg, z_add, z_sub, z_mul, z_lt, z_le, z_eq, z_in, z_cl]; omega)
    have vi : vp_in (nI i) 4 := vp_in_nI (by omega) (by decide)
    have ci : (nI i).toNatClampNeg = i := nI_clamp (by omega)
    refine MW.run1 gd_X6_init [98] 12 ?_
    simp (disch := omega) only [↓EVk, ↓w_if_eq, ↓w_an_ite, ↓mEndK, ↓w_retK0, ↓w_fitK, ↓w_dupK, ↓w_dup2K, w_an_back, ↓EVd, ↓ft_X6_init, ↓reduceIte, ↓EV_obs, ↓EV_obn, ↓EV_ais, ↓EV_ain, ↓EV_ob o1, mdF, mRun, List.mem_cons, List.not_mem_nil, or_false, mtab_eq, Nat.reduceEqDiff, Nat.zero_add, xO, w1, mset2, b10, b00, not_true_eq_false, not_false_eq_true, true_implies, false_implies, implies_true, and_true, true_and, Nat.le_refl, true_or, or_true, eq_self, List.length_cons, List.length_nil, Nat.reduceAdd, Nat.reduceLT, Nat.reduceLeDiff]
    refine MW.new (ci := 2) (fs := [.null, .int 0, .int 0]) (MW.dec gd_X6_init (pc := 98) rfl) rfl nwX.2.1 nwW.2.2.1.1 nwW.2.2.1.2 nd2 (by show 96 + 2 * i + 1 ≤ 136; omega) (by show 1411 + 65 * i + 3 ≤ 2500; omega) ?_
    have c1 : 96 + 2 * i + 1 + 1 ≤ 136 := by omega
    have c2 : 1411 + 65 * i + 3 + 62 ≤ 2500 := by omega
    refine MW.run gd_X6_init [105] 8 ?_
    simp (disch := omega) only [↓EVk, ↓w_if_eq, ↓w_an_ite, ↓mEndK, ↓w_retK0, ↓w_fitK, ↓w_dupK, ↓w_dup2K, w_an_back, ↓EVd, ↓ft_X6_init, ↓reduceIte, ↓EV_obs, ↓EV_obn, ↓EV_ais, ↓EV_ain, mdF, mRun, List.mem_cons, List.not_mem_nil, or_false, mtab_eq, Nat.reduceEqDiff, Nat.zero_add, hd1, mc2, zc, zs, c1, c2, mset2, b10, b00, not_true_eq_false, not_false_eq_true, true_implies, false_implies, implies_true, and_true, true_and, Nat.le_refl, true_or, or_true, eq_self, List.length_cons, List.length_nil, Nat.reduceAdd, Nat.reduceLT, Nat.reduceLeDiff]
    refine c_Sheet_init (s := B + 97 + 2 * i) (by omega) mset_same (fun h2 hS2 hk2 => ?_)
    simp (disch := omega) only [↓EVk, ↓w_if_eq, ↓w_an_ite, ↓mEndK, ↓w_retK0, ↓w_fitK, ↓w_dupK, ↓w_dup2K, w_an_back, ↓EVd, ↓ft_X6_init, ↓reduceIte, ↓EV_obs, ↓EV_obn, ↓EV_ais, ↓EV_ain, mdF, mRun, List.mem_cons, List.not_mem_nil, or_false, mtab_eq, Nat.reduceEqDiff, Nat.zero_add, mset2, b10, b00, not_true_eq_false, not_false_eq_true, true_implies, false_implies, implies_true, and_true, true_and, Nat.le_refl, true_or, or_true, eq_self, List.length_cons, List.length_nil, Nat.reduceAdd, Nat.reduceLT, Nat.reduceLeDiff]
    have r2 : h2 (B + 3) = some (rowR 5 4 G f) := by rw [hk2 _ (by omega), mset_ne (by omega)]; exact hr
    obtain ⟨C, s0, s1, s2⟩ := id hS2
    refine MW.ast (t := 5) (ci := 2) r2 s0 rfl rfl vi (MW.dec gd_X6_init (pc := 105) rfl) ?_
    refine MW.run gd_X6_init [88] 8 ?_
    simp (disch := omega) only [↓EVk, ↓w_if_eq, ↓w_an_ite, ↓mEndK, ↓w_retK0, ↓w_fitK, ↓w_dupK, ↓w_dup2K, w_an_back, ↓EVd, ↓ft_X6_init, ↓reduceIte, ↓EV_obs, ↓EV_obn, ↓EV_ais, ↓EV_ain, mdF, mRun, List.mem_cons, List.not_mem_nil, or_false, mtab_eq, Nat.reduceEqDiff, Nat.zero_add, nI_1, ci, mset2, b10, b00, not_true_eq_false, not_false_eq_true, true_implies, false_implies, implies_true, and_true, true_and, Nat.le_refl, true_or, or_true, eq_self, List.length_cons, List.length_nil, Nat.reduceAdd, Nat.reduceLT, Nat.reduceLeDiff]
    have eA : (B + 97 + 2 * i + 1 + 1, 96 + 2 * i + 1 + 1, 1411 + 65 * i + 3 + 62) = ((B + 97 + 2 * (i + 1), 96 + 2 * (i + 1), 1411 + 65 * (i + 1)) : mAl) := by
      refine Prod.ext ?_ (Prod.ext ?_ ?_)
      · show B + 97 + 2 * i + 1 + 1 = B + 97 + 2 * (i + 1); omega
      · show 96 + 2 * i + 1 + 1 = 96 + 2 * (i + 1); omega
      · show 1411 + 65 * i + 3 + 62 = 1411 + 65 * (i + 1); omega
    rw [eA]
    refine ih _ _ ⟨va_up f i (some (B + 97 + 2 * i)), rfl, mset_same, fun k hk' => ?_, fun k hk' => ?_, fun q h1' h2' => ?_⟩
    · by_cases c : k = i
      · rw [c, va_up_self]
        rfl
      · rw [va_up_ne _ _ c]
        exact hf k (by omega)
    · by_cases c : k = i
      · rw [c]
        exact SR_eq (fun q a b => mset_ne (by unfold xS at a; omega)) hS2
      · refine SR_eq (fun q a b => ?_) (hSh k (by omega))
        unfold xS at a b
        rw [mset_ne (by omega), hk2 q (by omega), mset_ne (by omega)]
    · rw [mset_ne (by omega), hk2 q (by omega), mset_ne (by omega)]
      exact hk q h1' h2'
  · rintro L h1 ⟨f, rfl, hr, hf, hSh, hk⟩
    have w1 : ((4 : Int32) ≤ nI 4) = True := eq_true (by decide)
    refine MW.run1 gd_X6_init [114] 8 ?_
    simp (disch := omega) only [↓EVk, ↓w_if_eq, ↓w_an_ite, ↓mEndK, ↓w_retK0, ↓w_fitK, ↓w_dupK, ↓w_dup2K, w_an_back, ↓EVd, ↓ft_X6_init, ↓reduceIte, ↓EV_obs, ↓EV_obn, ↓EV_ais, ↓EV_ain, mdF, mRun, List.mem_cons, List.not_mem_nil, or_false, mtab_eq, Nat.reduceEqDiff, Nat.zero_add, w1, mset2, b10, b00, not_true_eq_false, not_false_eq_true, true_implies, false_implies, implies_true, and_true, true_and, Nat.le_refl, true_or, or_true, eq_self, List.length_cons, List.length_nil, Nat.reduceAdd, Nat.reduceLT, Nat.reduceLeDiff]
    refine x_init3 (f4 := f4) (f5 := f) hd ?_ (XI5_eq hI (fun q a b c1 c2 => hk q c1 (by omega))) hr hf hSh ?_ (fun h2 hX hk2 => hp h2 hX (fun q hq => ?_))
    · rw [hk B (by omega) (by omega)]
      exact h0
    · rw [hk _ (by omega) (by omega)]
      exact r4
    · rw [hk2 q hq]
      exact hk q (by omega) (by omega)
set_option maxRecDepth 10000 in
theorem X_init (hd : 4 ≤ d) (h0 : h B = some (.inr (6, [.null, .null, .null, .null, .null, .null, .null, .int 0, .int 0])))
    (hp : ∀ h', XR h' G B AS0 → mKeep h h' B (B + 136) → post none h') : MC G MX6_init d 136 2500 [.ref B] h (B + 1) post := by
  have hd1 : 1 ≤ d := by omega
  refine MC.of (L0 := [some (.ref B), none]) gd_X6_init (Nat.le_of_ble_eq_true rfl) rfl (MW.run gd_X6_init [5, 17, 26, 33, 44, 55, 66, 88] 20 ?_)
  simp (disch := omega) only [↓EVi, ↓EVc, ↓ft_X6_init, ↓reduceIte, ↓EV_obs, ↓EV_obn, ↓EV_ais, ↓EV_ain, ↓EV_ob h0, mdF, mRun, List.mem_cons, List.not_mem_nil, or_false, mtab_eq, Nat.reduceEqDiff, Nat.zero_add, hd1, mset2, b10, b00, not_true_eq_false, not_false_eq_true, true_implies, false_implies, implies_true, and_true, true_and, Nat.le_refl, true_or, or_true, eq_self, List.length_cons, List.length_nil, Nat.reduceAdd, Nat.reduceLT, Nat.reduceLeDiff]
  refine MW.new (ci := 4) (fs := [.null, .int 0, .int 0, .int 0, .int 0, .int 0]) (MW.dec gd_X6_init (pc := 5) rfl) rfl nwX.1 nwW.2.2.2.2.1.1 nwW.2.2.2.2.1.2 nd4 (Nat.le_of_ble_eq_true rfl) (Nat.le_of_ble_eq_true rfl) (MW.run gd_X6_init [5, 17, 26, 33, 44, 55, 66, 88] 20 ?_)
  simp (disch := omega) only [↓EVi, ↓EVc, ↓ft_X6_init, ↓reduceIte, ↓EV_obs, ↓EV_obn, ↓EV_ais, ↓EV_ain, mdF, mRun, List.mem_cons, List.not_mem_nil, or_false, mtab_eq, Nat.reduceEqDiff, Nat.zero_add, hd1, mc4, zc, zs, Nat.add_assoc, mset2, b10, b00, not_true_eq_false, not_false_eq_true, true_implies, false_implies, implies_true, and_true, true_and, Nat.le_refl, true_or, or_true, eq_self, List.length_cons, List.length_nil, Nat.reduceAdd, Nat.reduceLT, Nat.reduceLeDiff]
  refine c_Tape_init (T := B + 1) (by omega) mset_same (fun h1 hT1 hk1 => ?_)
  have o1 : h1 B = some (.inr (6, [.null, .null, .null, .null, .null, .null, .null, .int 0, .int 0])) := by
    rw [hk1 B (by omega), mset_ne (by omega)]
    exact h0
  simp (disch := omega) only [↓EVi, ↓EVc, ↓ft_X6_init, ↓reduceIte, ↓EV_obs, ↓EV_obn, ↓EV_ais, ↓EV_ain, ↓EV_ob o1, mdF, mRun, List.mem_cons, List.not_mem_nil, or_false, mtab_eq, Nat.reduceEqDiff, Nat.zero_add, hd1, msw3, zc, zs, Nat.add_assoc, mset2, b10, b00, not_true_eq_false, not_false_eq_true, true_implies, false_implies, implies_true, and_true, true_and, Nat.le_refl, true_or, or_true, eq_self, List.length_cons, List.length_nil, Nat.reduceAdd, Nat.reduceLT, Nat.reduceLeDiff]
  refine MW.newr (t := 5) (D := "CornerFronts$Sheet") (K := 4) (MW.dec gd_X6_init (pc := 17) rfl) nwX.2.1 (fun U H q => q.2.2.2.2.2.1) rfl (by decide) rfl (by decide) (Nat.le_of_ble_eq_true rfl) (Nat.le_of_ble_eq_true rfl) (MW.run gd_X6_init [5, 17, 26, 33, 44, 55, 66, 88] 20 ?_)
  simp (disch := omega) only [↓EVi, ↓EVc, ↓ft_X6_init, ↓reduceIte, ↓EV_obs, ↓EV_obn, ↓EV_ais, ↓EV_ain, mdF, mRun, List.mem_cons, List.not_mem_nil, or_false, mtab_eq, Nat.reduceEqDiff, Nat.zero_add, hd1, msw3, zc, zs, Nat.add_assoc, mset2, b10, b00, not_true_eq_false, not_false_eq_true, true_implies, false_implies, implies_true, and_true, true_and, Nat.le_refl, true_or, or_true, eq_self, List.length_cons, List.length_nil, Nat.reduceAdd, Nat.reduceLT, Nat.reduceLeDiff]
  refine MW.newr (t := 4) (D := "CornerFronts$Front") (K := 8) (MW.dec gd_X6_init (pc := 26) rfl) nwX.2.2.1 (fun U H q => q.2.2.2.2.1) rfl (by decide) rfl (by decide) (Nat.le_of_ble_eq_true rfl) (Nat.le_of_ble_eq_true rfl) (MW.run gd_X6_init [5, 17, 26, 33, 44, 55, 66, 88] 20 ?_)
  simp (disch := omega) only [↓EVi, ↓EVc, ↓ft_X6_init, ↓reduceIte, ↓EV_obs, ↓EV_obn, ↓EV_ais, ↓EV_ain, mdF, mRun, List.mem_cons, List.not_mem_nil, or_false, mtab_eq, Nat.reduceEqDiff, Nat.zero_add, hd1, msw3, zc, zs, Nat.add_assoc, mset2, b10, b00, not_true_eq_false, not_false_eq_true, true_implies, false_implies, implies_true, and_true, true_and, Nat.le_refl, true_or, or_true, eq_self, List.length_cons, List.length_nil, Nat.reduceAdd, Nat.reduceLT, Nat.reduceLeDiff]
  refine MW.new (ci := 0) (fs := [.null, .null, .null, .int 0, .int 0]) (MW.dec gd_X6_init (pc := 33) rfl) rfl nwX.2.2.1 nwW.1.1 nwW.1.2 nd0 (Nat.le_of_ble_eq_true rfl) (Nat.le_of_ble_eq_true rfl) (MW.run gd_X6_init [5, 17, 26, 33, 44, 55, 66, 88] 20 ?_)
  simp (disch := omega) only [↓EVi, ↓EVc, ↓ft_X6_init, ↓reduceIte, ↓EV_obs, ↓EV_obn, ↓EV_ais, ↓EV_ain, mdF, mRun, List.mem_cons, List.not_mem_nil, or_false, mtab_eq, Nat.reduceEqDiff, Nat.zero_add, hd1, mc0, zc, zs, Nat.add_assoc, mset2, b10, b00, not_true_eq_false, not_false_eq_true, true_implies, false_implies, implies_true, and_true, true_and, Nat.le_refl, true_or, or_true, eq_self, List.length_cons, List.length_nil, Nat.reduceAdd, Nat.reduceLT, Nat.reduceLeDiff]
  refine c_Front_init (F := B + 5) (by omega) mset_same (fun h2 hF2 hk2 => ?_)
  have q2 : ∀ q, q < B + 5 → q ≠ B → q ≠ B + 3 → q ≠ B + 4 → h2 q = h1 q := fun q a b c e => by
    rw [hk2 q (by omega)]
    simp (disch := omega) only [mset_ne]
  have o2 : h2 B = some (.inr (6, [.ref (B + 1), .ref (B + 3), .ref (B + 4), .null, .null, .null, .null, .int 0, .int 0])) := by
    rw [hk2 B (by omega)]
    simp (disch := omega) only [mset_same, mset_ne]
  have s2 : h2 (B + 3) = some (rowR 5 4 G (fun _ => none)) := by
    rw [hk2 _ (by omega)]
    simp (disch := omega) only [mset_same, mset_ne]
  have t2 : h2 (B + 4) = some (rowR 4 8 G (fun _ => none)) := by
    rw [hk2 _ (by omega)]
    simp (disch := omega) only [mset_same, mset_ne]
  have T2 : TapeR h2 G (B + 1) [] := TR_eq (fun q a b => q2 q (by omega) (by omega) (by omega) (by omega)) hT1
  simp (disch := omega) only [↓EVi, ↓EVc, ↓ft_X6_init, ↓reduceIte, ↓EV_obs, ↓EV_obn, ↓EV_ais, ↓EV_ain, ↓EV_ob o2, mdF, mRun, List.mem_cons, List.not_mem_nil, or_false, mtab_eq, Nat.reduceEqDiff, Nat.zero_add, hd1, msw3, zc, zs, Nat.add_assoc, mset2, b10, b00, not_true_eq_false, not_false_eq_true, true_implies, false_implies, implies_true, and_true, true_and, Nat.le_refl, true_or, or_true, eq_self, List.length_cons, List.length_nil, Nat.reduceAdd, Nat.reduceLT, Nat.reduceLeDiff]
  refine MW.new (ci := 1) (fs := [.null, .null, .int 0, .int 0]) (MW.dec gd_X6_init (pc := 44) rfl) rfl nwX.2.2.2.1 nwW.2.1.1 nwW.2.1.2 nd1 (Nat.le_of_ble_eq_true rfl) (Nat.le_of_ble_eq_true rfl) (MW.run gd_X6_init [5, 17, 26, 33, 44, 55, 66, 88] 20 ?_)
  simp (disch := omega) only [↓EVi, ↓EVc, ↓ft_X6_init, ↓reduceIte, ↓EV_obs, ↓EV_obn, ↓EV_ais, ↓EV_ain, mdF, mRun, List.mem_cons, List.not_mem_nil, or_false, mtab_eq, Nat.reduceEqDiff, Nat.zero_add, hd1, mc1, zc, zs, Nat.add_assoc, mset2, b10, b00, not_true_eq_false, not_false_eq_true, true_implies, false_implies, implies_true, and_true, true_and, Nat.le_refl, true_or, or_true, eq_self, List.length_cons, List.length_nil, Nat.reduceAdd, Nat.reduceLT, Nat.reduceLeDiff]
  refine c_Patch_init (P := B + 9) (by omega) mset_same (fun h3 hP3 hk3 => ?_)
  have q3 : ∀ q, q < B + 9 → q ≠ B → h3 q = h2 q := fun q a b => by
    rw [hk3 q (by omega)]
    simp (disch := omega) only [mset_ne]
  have o3 : h3 B = some (.inr (6, [.ref (B + 1), .ref (B + 3), .ref (B + 4), .ref (B + 5), .null, .null, .null, .int 0, .int 0])) := by
    rw [hk3 B (by omega)]
    simp (disch := omega) only [mset_same, mset_ne]
  simp (disch := omega) only [↓EVi, ↓EVc, ↓ft_X6_init, ↓reduceIte, ↓EV_obs, ↓EV_obn, ↓EV_ais, ↓EV_ain, ↓EV_ob o3, mdF, mRun, List.mem_cons, List.not_mem_nil, or_false, mtab_eq, Nat.reduceEqDiff, Nat.zero_add, hd1, msw3, zc, zs, Nat.add_assoc, mset2, b10, b00, not_true_eq_false, not_false_eq_true, true_implies, false_implies, implies_true, and_true, true_and, Nat.le_refl, true_or, or_true, eq_self, List.length_cons, List.length_nil, Nat.reduceAdd, Nat.reduceLT, Nat.reduceLeDiff]
  refine MW.new (ci := 5) (fs := [.null, .null, .null, .null, .null, .null, .null, .null, .int 0, .int 0, .null, .null, .null]) (MW.dec gd_X6_init (pc := 55) rfl) rfl nwX.2.2.2.2.1 nwW.2.2.2.2.2.1.1 nwW.2.2.2.2.2.1.2 nd5 (Nat.le_of_ble_eq_true rfl) (Nat.le_of_ble_eq_true rfl) (MW.run gd_X6_init [5, 17, 26, 33, 44, 55, 66, 88] 20 ?_)
  simp (disch := omega) only [↓EVi, ↓EVc, ↓ft_X6_init, ↓reduceIte, ↓EV_obs, ↓EV_obn, ↓EV_ais, ↓EV_ain, mdF, mRun, List.mem_cons, List.not_mem_nil, or_false, mtab_eq, Nat.reduceEqDiff, Nat.zero_add, hd1, mc5, zc, zs, Nat.add_assoc, mset2, b10, b00, not_true_eq_false, not_false_eq_true, true_implies, false_implies, implies_true, and_true, true_and, Nat.le_refl, true_or, or_true, eq_self, List.length_cons, List.length_nil, Nat.reduceAdd, Nat.reduceLT, Nat.reduceLeDiff]
  refine c_Ways_init (W := B + 12) (by omega) mset_same (fun h4 hW4 hk4 => ?_)
  have q4 : ∀ q, q < B + 12 → q ≠ B → h4 q = h3 q := fun q a b => by
    rw [hk4 q (by omega)]
    simp (disch := omega) only [mset_ne]
  have o4 : h4 B = some (.inr (6, [.ref (B + 1), .ref (B + 3), .ref (B + 4), .ref (B + 5), .ref (B + 9), .null, .null, .int 0, .int 0])) := by
    rw [hk4 B (by omega)]
    simp (disch := omega) only [mset_same, mset_ne]
  simp (disch := omega) only [↓EVi, ↓EVc, ↓ft_X6_init, ↓reduceIte, ↓EV_obs, ↓EV_obn, ↓EV_ais, ↓EV_ain, ↓EV_ob o4, mdF, mRun, List.mem_cons, List.not_mem_nil, or_false, mtab_eq, Nat.reduceEqDiff, Nat.zero_add, hd1, msw3, zc, zs, Nat.add_assoc, mset2, b10, b00, not_true_eq_false, not_false_eq_true, true_implies, false_implies, implies_true, and_true, true_and, Nat.le_refl, true_or, or_true, eq_self, List.length_cons, List.length_nil, Nat.reduceAdd, Nat.reduceLT, Nat.reduceLeDiff]
  refine MW.new (ci := 3) (fs := [.null, .null, .null, .null, .int 0, .int 0, .int 0]) (MW.dec gd_X6_init (pc := 66) rfl) rfl nwX.2.2.2.2.2.1 nwW.2.2.2.1.1 nwW.2.2.2.1.2 nd3 (Nat.le_of_ble_eq_true rfl) (Nat.le_of_ble_eq_true rfl) (MW.run gd_X6_init [5, 17, 26, 33, 44, 55, 66, 88] 20 ?_)
  simp (disch := omega) only [↓EVi, ↓EVc, ↓ft_X6_init, ↓reduceIte, ↓EV_obs, ↓EV_obn, ↓EV_ais, ↓EV_ain, mdF, mRun, List.mem_cons, List.not_mem_nil, or_false, mtab_eq, Nat.reduceEqDiff, Nat.zero_add, hd1, mc3, zc, zs, Nat.add_assoc, mset2, b10, b00, not_true_eq_false, not_false_eq_true, true_implies, false_implies, implies_true, and_true, true_and, Nat.le_refl, true_or, or_true, eq_self, List.length_cons, List.length_nil, Nat.reduceAdd, Nat.reduceLT, Nat.reduceLeDiff]
  refine c_Sw_init (Q := B + 58) (by omega) mset_same (fun h5 hS5 hk5 => ?_)
  have q5 : ∀ q, q < B + 58 → q ≠ B → h5 q = h4 q := fun q a b => by
    rw [hk5 q (by omega)]
    simp (disch := omega) only [mset_ne]
  have o5 : h5 B = some (.inr (6, [.ref (B + 1), .ref (B + 3), .ref (B + 4), .ref (B + 5), .ref (B + 9), .ref (B + 12), .null, .int 0, .int 0])) := by
    rw [hk5 B (by omega)]
    simp (disch := omega) only [mset_same, mset_ne]
  have q45 : ∀ q, q < B + 9 → q ≠ B → h5 q = h2 q := fun q a b => by
    rw [q5 q (by omega) b, q4 q (by omega) b, q3 q a b]
  have I5 : XI5 h5 G B := ⟨TR_eq (fun q a b => q45 q (by omega) (by omega)) T2, FA_eq (fun q a b => q45 q (by omega) (by omega)) ⟨_, _, _, _, _, hF2⟩, PA_eq (fun q a b => by rw [q5 q (by omega) (by omega), q4 q (by omega) (by omega)]) hP3, WA_eq (fun q a b => q5 q (by omega) (by omega)) hW4, hS5⟩
  simp (disch := omega) only [↓EVi, ↓EVc, ↓ft_X6_init, ↓reduceIte, ↓EV_obs, ↓EV_obn, ↓EV_ais, ↓EV_ain, ↓EV_ob o5, mdF, mRun, List.mem_cons, List.not_mem_nil, or_false, mtab_eq, Nat.reduceEqDiff, Nat.zero_add, hd1, msw3, zc, zs, Nat.add_assoc, mset2, b10, b00, not_true_eq_false, not_false_eq_true, true_implies, false_implies, implies_true, and_true, true_and, Nat.le_refl, true_or, or_true, eq_self, List.length_cons, List.length_nil, Nat.reduceAdd, Nat.reduceLT, Nat.reduceLeDiff]
  refine x_init2 (f4 := fun _ => none) (f5 := fun _ => none) (by omega) mset_same (XI5_eq I5 (fun q a b c1 c2 => mset_ne (by omega))) (by rw [mset_ne (by omega), q45 _ (by omega) (by omega)]; exact s2) (by rw [mset_ne (by omega), q45 _ (by omega) (by omega)]; exact t2) (fun h6 hX6 hk6 => hp h6 hX6 (fun q hq => ?_))
  rw [hk6 q hq, mset_ne (by omega)]
  have n1 : q < B ∨ B + 136 < q := hq
  rw [hk5 q (by omega)]
  simp (disch := omega) only [mset_ne]
  rw [hk4 q (by omega)]
  simp (disch := omega) only [mset_ne]
  rw [hk3 q (by omega)]
  simp (disch := omega) only [mset_ne]
  rw [hk2 q (by omega)]
  simp (disch := omega) only [mset_ne]
  rw [hk1 q (by omega), mset_ne (by omega)]
end XIN
