/-! Ways: marks, corners, the walk -/
section WYS
variable {h : mH} {G : mG} {W wo : Nat} {ac pc : Int32} {R a : Nat → Nat → Int32}
def wLen (k : Nat) : Nat := if k < 6 then 30 else 15
def wCl (k : Nat) : Nat := if k = 2 ∨ k = 4 then 2 else 0
theorem WaysC_v {wo' : Nat} {ac' pc' : Int32} (hW : WaysC h G W wo ac pc R a) : WaysC (mset h W (.inr (5, [.ref wo', .ref (W + 5), .ref (W + 37), .ref (W + 38), .ref (W + 39), .ref (W + 40), .ref (W + 41), .ref (W + 42), .int ac', .int pc', .ref (W + 43), .ref (W + 44), .ref (W + 45)]))) G W wo' ac' pc' R a := by
  obtain ⟨h0, h1, h2, h3⟩ := hW
  exact ⟨mset_same, by rw [mset_ne (by omega)]; exact h1, fun i hi => by rw [mset_ne (by omega)]; exact h2 i hi, fun k hk => by rw [mset_ne (by omega)]; exact h3 k hk⟩
theorem WaysC_a {k : Nat} {f : Nat → Int32} (hW : WaysC h G W wo ac pc R a) (hk : k < 9) : WaysC (mset h (W + 37 + k) (.inl (gC G (wCl k), wLen k, .inl f))) G W wo ac pc R (aset a k f) := by
  obtain ⟨h0, h1, h2, h3⟩ := hW
  refine ⟨by rw [mset_ne (by omega)]; exact h0, by rw [mset_ne (by omega)]; exact h1, fun i hi => by rw [mset_ne (by omega)]; exact h2 i hi, fun j hj => ?_⟩
  unfold aset
  by_cases c : j = k
  · subst c
    rw [mset_same, if_pos rfl]
    rfl
  · rw [mset_ne (by omega), if_neg c]
    exact h3 j hj
theorem WaysC_R {k : Nat} {f : Nat → Int32} (hW : WaysC h G W wo ac pc R a) (hk : k < 31) : WaysC (mset h (W + 6 + k) (.inl (gC G 0, 10, .inl f))) G W wo ac pc (aset R k f) a := by
  obtain ⟨h0, h1, h2, h3⟩ := hW
  refine ⟨by rw [mset_ne (by omega)]; exact h0, by rw [mset_ne (by omega)]; exact h1, fun j hj => ?_, fun j hj => by rw [mset_ne (by omega)]; exact h3 j hj⟩
  unfold aset
  by_cases c : j = k
  · subst c
    rw [mset_same, if_pos rfl]
  · rw [mset_ne (by omega), if_neg c]
    exact h2 j hj
/-- the marks of the arcs in the ways' rows -/
def vAt (a : Nat → Nat → Int32) (c : Nat) (o : Option Mk) : Prop := match o with
  | none => a 3 c = -1
  | some m => a 3 c = nI m.1 ∧ a 4 c = (if m.2.1 = true then 1 else 0) ∧ a 5 c = zI m.2.2
def VR (es : List Ev) (V : VM) (a : Nat → Nat → Int32) : Prop := ∀ c, c < nA es → vAt a c (V c)
theorem VR_mark {es : List Ev} {V : VM} {c q : Nat} {b : Bool} {l : Int} (hV : VR es V a) (f3 f4 f5 : Nat → Int32) (e3 : f3 = upd (a 3) c (nI q)) (e4 : f4 = upd (a 4) c (if b = true then 1 else 0)) (e5 : f5 = upd (a 5) c (zI l)) : VR es (vset V c (q, b, l)) (aset (aset (aset a 3 f3) 4 f4) 5 f5) := by
  intro x hx
  have g3 : aset (aset (aset a 3 f3) 4 f4) 5 f5 3 = f3 := rfl
  have g4 : aset (aset (aset a 3 f3) 4 f4) 5 f5 4 = f4 := rfl
  have g5 : aset (aset (aset a 3 f3) 4 f4) 5 f5 5 = f5 := rfl
  unfold vset
  by_cases k : x = c
  · rw [if_pos k, k]
    show _ ∧ _ ∧ _
    rw [g3, g4, g5, e3, e4, e5, pk_us, pk_us, pk_us]
    exact ⟨rfl, rfl, rfl⟩
  · rw [if_neg k]
    have z := hV x hx
    cases o : V x with
    | none =>
      rw [o] at z
      show aset (aset (aset a 3 f3) 4 f4) 5 f5 3 x = -1
      rw [g3, e3, pk_un k]
      exact z
    | some m =>
      rw [o] at z
      show _ ∧ _ ∧ _
      rw [g3, g4, g5, e3, e4, e5, pk_un k, pk_un k, pk_un k]
      exact z
variable {d N : Nat} {post : Option Value → mH → Prop}
set_option maxRecDepth 10000 in
theorem w_mark {es : List Ev} {V : VM} {c q : Nat} {b : Bool} {l : Int} {x y z w : Int32} (hW : WaysC h G W wo ac pc R a) (hV : VR es V a) (hc : c < 30) (hx : x = nI c) (hy : y = nI q) (hz : z = (if b = true then 1 else 0)) (hw : w = zI l)
    (hp : ∀ h' a', WaysC h' G W wo ac pc R a' → VR es (vset V c (q, b, l)) a' → (∀ k, k < 3 ∨ 6 ≤ k → a' k = a k) → mKeep h h' W (W + 45) → post none h') : MC G MX5_mark d 0 0 [.ref W, .int x, .int y, .int z, .int w] h N post := by
  subst hx
  subst hy
  subst hw
  have h0 := hW.1
  have a3 : h (W + 40) = some (.inl (gC G 0, 30, .inl (a 3))) := hW.2.2.2 3 (by decide)
  have a4 : h (W + 41) = some (.inl (gC G 2, 30, .inl (a 4))) := hW.2.2.2 4 (by decide)
  have a5 : h (W + 42) = some (.inl (gC G 0, 30, .inl (a 5))) := hW.2.2.2 5 (by decide)
  have cc : (nI c).toNatClampNeg = c := nI_clamp (by omega)
  have vc : vp_in (nI c) 30 := vp_in_nI hc (by decide)
  have en : vp_nar FieldType.boolean z = z := by
    rw [hz]
    cases b
    · exact nar01.2
    · exact nar01.1
  refine MC.of (L0 := [some (.ref W), some (.int (nI c)), some (.int (nI q)), some (.int z), some (.int (zI l))]) gd_X5_mark (Nat.le_of_ble_eq_true rfl) rfl (MW.run gd_X5_mark [] 30 ?_)
  simp (disch := omega) only [↓EVi, ↓EVc, ↓ft_X5_mark, ↓reduceIte, ↓EV_obs, ↓EV_obn, ↓EV_ais, ↓EV_ain, ↓EV_ob h0, ↓EV_ai a3, ↓EV_ai a4, ↓EV_ai a5, mdF, mRun, List.mem_cons, List.not_mem_nil, or_false, mtab_eq, Nat.reduceEqDiff, Nat.zero_add, cc, vc, mset2, b10, b00, not_true_eq_false, not_false_eq_true, true_implies, false_implies, implies_true, and_true, true_and, Nat.le_refl, true_or, or_true, eq_self, List.length_cons, List.length_nil, Nat.reduceAdd, Nat.reduceLT, Nat.reduceLeDiff]
  rw [en, hz]
  exact hp _ _ (WaysC_a (k := 5) (f := upd (a 5) c (zI l)) (WaysC_a (k := 4) (f := upd (a 4) c (if b = true then 1 else 0)) (WaysC_a (k := 3) (f := upd (a 3) c (nI q)) hW (by decide)) (by decide)) (by decide)) (VR_mark hV _ _ _ rfl rfl rfl) (fun k hk => by unfold aset; rw [if_neg (by omega), if_neg (by omega), if_neg (by omega)]) (fun z hz => by simp (disch := omega) only [mset_ne])
/-- the corners counted -/
def UD (a : Nat → Nat → Int32) (q u e : Nat) : Prop := a 8 q = nI u ∧ a 7 q = nI e
set_option maxRecDepth 10000 in
theorem w_turnCorner {q u e : Nat} {b : Bool} {y z : Int32} (hW : WaysC h G W wo ac pc R a) (hq : q < 15) (hy : y = nI q) (hz : z = (if b = true then 1 else 0)) (hU : UD a q u e)
    (hp : ∀ h' a', WaysC h' G W wo ac pc R a' → UD a' q (u + (if b = true then 0 else 1)) (e + (if b = true then 1 else 0)) → (∀ k, k ≤ 6 → a' k = a k) → (∀ j, j ≠ q → a' 7 j = a 7 j ∧ a' 8 j = a 8 j) → mKeep h h' W (W + 45) → post (some (.int (if b = true then -1 else 1))) h') : MC G MX5_turnCorner d 0 0 [.ref W, .int y, .int z] h N post := by
  subst hy
  have h0 := hW.1
  have a7 : h (W + 44) = some (.inl (gC G 0, 15, .inl (a 7))) := hW.2.2.2 7 (by decide)
  have a8 : h (W + 45) = some (.inl (gC G 0, 15, .inl (a 8))) := hW.2.2.2 8 (by decide)
  have cq : (nI q).toNatClampNeg = q := nI_clamp (by omega)
  have vq : vp_in (nI q) 15 := vp_in_nI hq (by decide)
  refine MC.of (L0 := [some (.ref W), some (.int (nI q)), some (.int z)]) gd_X5_turnCorner (Nat.le_of_ble_eq_true rfl) rfl (MW.run gd_X5_turnCorner [] 20 ?_)
  cases b with
  | true =>
    simp only [↓reduceIte] at hz hp
    subst hz
    simp (disch := omega) only [↓EVk, ↓w_if_eq, ↓w_an_ite, ↓mEndK, ↓w_retK0, ↓w_fitK, ↓w_dupK, ↓w_dup2K, w_an_back, ↓EVd, ↓ft_X5_turnCorner, ↓reduceIte, ↓EV_obs, ↓EV_obn, ↓EV_ais, ↓EV_ain, ↓EV_ob h0, ↓EV_ai a7, mdF, mRun, List.mem_cons, List.not_mem_nil, or_false, mtab_eq, Nat.reduceEqDiff, Nat.zero_add, cq, vq, mset2, b10, b00, not_true_eq_false, not_false_eq_true, true_implies, false_implies, implies_true, and_true, true_and, Nat.le_refl, true_or, or_true, eq_self, List.length_cons, List.length_nil, Nat.reduceAdd, Nat.reduceLT, Nat.reduceLeDiff]
    refine hp _ _ (WaysC_a (k := 7) (f := upd (a 7) q (a 7 q + 1)) hW (by decide)) ⟨?_, ?_⟩ (fun k hk => by unfold aset; rw [if_neg (by omega)]) (fun j hj => ⟨?_, rfl⟩) (fun z hz => mset_ne (by omega))
    · show a 8 q = _
      rw [Nat.add_zero]
      exact hU.1
    · show upd (a 7) q (a 7 q + 1) q = _
      rw [pk_us, hU.2, nI_1]
    · show upd (a 7) q (a 7 q + 1) j = _
      rw [pk_un hj]
  | false =>
    simp only [Bool.false_eq_true, ↓reduceIte] at hz hp
    subst hz
    simp (disch := omega) only [↓EVk, ↓w_if_eq, ↓w_an_ite, ↓mEndK, ↓w_retK0, ↓w_fitK, ↓w_dupK, ↓w_dup2K, w_an_back, ↓EVd, ↓ft_X5_turnCorner, ↓reduceIte, ↓EV_obs, ↓EV_obn, ↓EV_ais, ↓EV_ain, ↓EV_ob h0, ↓EV_ai a8, mdF, mRun, List.mem_cons, List.not_mem_nil, or_false, mtab_eq, Nat.reduceEqDiff, Nat.zero_add, cq, vq, mset2, b10, b00, not_true_eq_false, not_false_eq_true, true_implies, false_implies, implies_true, and_true, true_and, Nat.le_refl, true_or, or_true, eq_self, List.length_cons, List.length_nil, Nat.reduceAdd, Nat.reduceLT, Nat.reduceLeDiff]
    refine hp _ _ (WaysC_a (k := 8) (f := upd (a 8) q (a 8 q + 1)) hW (by decide)) ⟨?_, ?_⟩ (fun k hk => by unfold aset; rw [if_neg (by omega)]) (fun j hj => ⟨rfl, ?_⟩) (fun z hz => mset_ne (by omega))
    · show upd (a 8) q (a 8 q + 1) q = _
      rw [pk_us, hU.1, nI_1]
    · show a 7 q = _
      rw [Nat.add_zero]
      exact hU.2
    · show upd (a 8) q (a 8 q + 1) j = _
      rw [pk_un hj]
theorem xor1 {b : Nat} (hb : b < 30) : nI b ^^^ 1 = nI (par b) := by
  have key : ∀ b : Fin 30, nI b.val ^^^ 1 = nI (par b.val) := by decide
  exact key ⟨b, hb⟩
theorem and1 {b : Nat} (hb : b < 30) : nI b &&& 1 = nI (b % 2) := pk_andN (n := b) (by omega) (m := 1) 1 (by decide)
/-- what the arcs' rows tell of the front -/
def arcD (es : List Ev) (a : Nat → Nat → Int32) : Prop := (∀ c, c < nA es → a 1 c = nI (mt es c) ∧ a 2 c = (if ab es c = true then 1 else 0)) ∧ ∀ j, j < bth es es.length → a 0 (2 * j + 1) = nI (bE es j)
set_option maxRecDepth 10000 in
theorem w_walk {es : List Ev} {V : VM} {q j : Nat} {x : Int32} (hd : 2 ≤ d) (hw : whl es) (hW : WaysC h G W wo ac (nI q) R a) (hV : VR es V a) (hD : arcD es a) (hq : q < 15) (hj : j < bth es es.length) (hx : x = nI (2 * j + 1)) (hC : CL es V) (hn : V (2 * j + 1) = none)
    (hp : ∀ h' a', WaysC h' G W wo ac (nI (q + 1)) R a' → VR es (wlk es q 16 V 0 0 (2 * j + 1) 0).1 a' → UD a' q (wlk es q 16 V 0 0 (2 * j + 1) 0).2.1 (wlk es q 16 V 0 0 (2 * j + 1) 0).2.2 → a' 6 q = nI (bE es j) → (∀ k, k < 3 → a' k = a k) → (∀ i, i ≠ q → a' 6 i = a 6 i ∧ a' 7 i = a 7 i ∧ a' 8 i = a 8 i) → mKeep h h' W (W + 45) → post none h') : MC G MX5_walk d 0 0 [.ref W, .int x] h N post := by
  subst hx
  have hd1 : 1 ≤ d := by omega
  have hb15 := bth_le hw
  have hnA : nA es ≤ 30 := by unfold nA; omega
  have hlt : 2 * j + 1 < nA es := by unfold nA; omega
  have h0 := hW.1
  have a0 : h (W + 37) = some (.inl (gC G 0, 30, .inl (a 0))) := hW.2.2.2 0 (by decide)
  have a6 : h (W + 43) = some (.inl (gC G 0, 15, .inl (a 6))) := hW.2.2.2 6 (by decide)
  have a7 : h (W + 44) = some (.inl (gC G 0, 15, .inl (a 7))) := hW.2.2.2 7 (by decide)
  have a8 : h (W + 45) = some (.inl (gC G 0, 15, .inl (a 8))) := hW.2.2.2 8 (by decide)
  have cq : (nI q).toNatClampNeg = q := nI_clamp (by omega)
  have vq : vp_in (nI q) 15 := vp_in_nI hq (by decide)
  have cs : (nI (2 * j + 1)).toNatClampNeg = 2 * j + 1 := nI_clamp (by omega)
  have vs : vp_in (nI (2 * j + 1)) 30 := vp_in_nI (by omega) (by decide)
  have eb := hD.2 j hj
  refine MC.of (L0 := [some (.ref W), some (.int (nI (2 * j + 1))), none, none, none, none, none]) gd_X5_walk (Nat.le_of_ble_eq_true rfl) rfl (MW.run gd_X5_walk [49] 40 ?_)
  simp (disch := omega) only [↓EVi, ↓EVc, ↓ft_X5_walk, ↓reduceIte, ↓EV_obs, ↓EV_obn, ↓EV_ais, ↓EV_ain, ↓EV_ob h0, ↓EV_ai a0, ↓EV_ai a6, ↓EV_ai a7, ↓EV_ai a8, mdF, mRun, List.mem_cons, List.not_mem_nil, or_false, mtab_eq, Nat.reduceEqDiff, Nat.zero_add, cq, vq, cs, vs, eb, mset2, b10, b00, not_true_eq_false, not_false_eq_true, true_implies, false_implies, implies_true, and_true, true_and, Nat.le_refl, true_or, or_true, eq_self, List.length_cons, List.length_nil, Nat.reduceAdd, Nat.reduceLT, Nat.reduceLeDiff]
  rw [nI_1]
  have hW1 := WaysC_a (k := 8) (f := upd (a 8) q 0) (WaysC_a (k := 7) (f := upd (a 7) q 0) (WaysC_a (k := 6) (f := upd (a 6) q (nI (bE es j))) (WaysC_v (wo' := wo) (ac' := ac) (pc' := nI (q + 1)) hW) (by decide)) (by decide)) (by decide)
  generalize hR0 : wlk es q 16 V 0 0 (2 * j + 1) 0 = R0 at hp
  refine MW.upto 15 (fun s L h' => ∃ a' V' u e cur l x6, L = [some (.ref W), some (.int (nI (2 * j + 1))), some (.int (nI q)), some (.int (nI cur)), some (.int (zI l)), some (.int (nI s)), x6] ∧ WaysC h' G W wo ac (nI (q + 1)) R a' ∧ VR es V' a' ∧ UD a' q u e ∧ a' 6 q = nI (bE es j) ∧ (∀ k, k < 3 → a' k = a k) ∧ (∀ i, i ≠ q → a' 6 i = a 6 i ∧ a' 7 i = a 7 i ∧ a' 8 i = a 8 i) ∧ WP es V' (2 * j + 1) cur ∧ V' cur = none ∧ 2 * s ≤ cnt V' (nA es) ∧ R0 = wlk es q (16 - s) V' u e cur l ∧ mKeep h h' W (W + 45)) ?_ ?_ 0 _ _ (Nat.zero_le _) ⟨_, V, 0, 0, 2 * j + 1, 0, none, rfl, hW1, hV, ⟨pk_us, pk_us⟩, pk_us, fun k hk => ?_, fun i hi => ⟨pk_un hi, pk_un hi, pk_un hi⟩, CL_WP hC hlt hn, hn, Nat.zero_le _, hR0.symm, fun z hz => by simp (disch := omega) only [mset_ne]⟩
  · rintro s L h' hs ⟨a', V', u, e, cur, l, x6, rfl, hW', hV', hU', h6, hk3, hot, hWP, hnc, hcnt, hRR, hk⟩ ih
    obtain ⟨s1, s2, s3⟩ := WP_step hw (q := q) (l := l) hWP hnc
    obtain ⟨m1, m2, m3⟩ := mt_ok hw hWP.1
    have hcur : cur < 30 := by have := hWP.1; omega
    have hback : mt es cur < 30 := by omega
    have f1 : ((15 : Int32) ≤ nI s) = False := eq_false (by simp (disch := omega) only [z_nI, z_lit, z_neg, z_add, z_sub, z_mul, z_lt, z_le, z_eq, z_in, z_cl]; omega)
    have cc : (nI cur).toNatClampNeg = cur := nI_clamp (by omega)
    have vc : vp_in (nI cur) 30 := vp_in_nI hcur (by decide)
    rw [show 16 - s = (15 - s) + 1 by omega] at hRR
    unfold wlk at hRR
    rw [if_neg (by rw [hnc]; decide)] at hRR
    refine MW.run1 gd_X5_walk [49, 99] 36 ?_
    simp (disch := omega) only [↓EVk, ↓w_if_eq, ↓w_an_ite, ↓mEndK, ↓w_retK0, ↓w_fitK, ↓w_dupK, ↓w_dup2K, w_an_back, ↓EVd, ↓ft_X5_walk, ↓reduceIte, ↓EV_obs, ↓EV_obn, ↓EV_ais, ↓EV_ain, ↓EV_ob hW'.1, mdF, mRun, List.mem_cons, List.not_mem_nil, or_false, mtab_eq, Nat.reduceEqDiff, Nat.zero_add, f1, hd1, mset2, b10, b00, not_true_eq_false, not_false_eq_true, true_implies, false_implies, implies_true, and_true, true_and, Nat.le_refl, true_or, or_true, eq_self, List.length_cons, List.length_nil, Nat.reduceAdd, Nat.reduceLT, Nat.reduceLeDiff]
    refine w_mark (b := true) hW' hV' hcur rfl rfl rfl rfl (fun h1 a1 hW1 hV1 hu1 hk1 => ?_)
    have r2 : h1 (W + 39) = some (.inl (gC G 2, 30, .inl (a1 2))) := hW1.2.2.2 2 (by decide)
    have e2 : a1 2 cur = (if ab es cur = true then 1 else 0) := by rw [hu1 2 (by omega), hk3 2 (by omega)]; exact (hD.1 cur hWP.1).2
    simp (disch := omega) only [↓EVk, ↓w_if_eq, ↓w_an_ite, ↓mEndK, ↓w_retK0, ↓w_fitK, ↓w_dupK, ↓w_dup2K, w_an_back, ↓EVd, ↓ft_X5_walk, ↓reduceIte, ↓EV_obs, ↓EV_obn, ↓EV_ais, ↓EV_ain, ↓EV_ob hW1.1, ↓EV_ai r2, mdF, mRun, List.mem_cons, List.not_mem_nil, or_false, mtab_eq, Nat.reduceEqDiff, Nat.zero_add, hd1, cc, vc, e2, mset2, b10, b00, not_true_eq_false, not_false_eq_true, true_implies, false_implies, implies_true, and_true, true_and, Nat.le_refl, true_or, or_true, eq_self, List.length_cons, List.length_nil, Nat.reduceAdd, Nat.reduceLT, Nat.reduceLeDiff]
    refine w_turnCorner (b := ab es cur) hW1 hq rfl rfl (u := u) (e := e) ⟨by rw [hu1 8 (by omega)]; exact hU'.1, by rw [hu1 7 (by omega)]; exact hU'.2⟩ (fun h2 a2 hW2 hU2 hu2 hv2 hk2 => ?_)
    have r1 : h2 (W + 38) = some (.inl (gC G 0, 30, .inl (a2 1))) := hW2.2.2.2 1 (by decide)
    have e1 : a2 1 cur = nI (mt es cur) := by rw [hu2 1 (by omega), hu1 1 (by omega), hk3 1 (by omega)]; exact (hD.1 cur hWP.1).1
    have el1 : zI l + (if ab es cur = true then -1 else 1) = zI (lv1 es cur l) := by
      unfold lv1
      cases ab es cur with
      | true => exact zI_dn l
      | false => exact zI_up l
    simp (disch := omega) only [↓EVk, ↓w_if_eq, ↓w_an_ite, ↓mEndK, ↓w_retK0, ↓w_fitK, ↓w_dupK, ↓w_dup2K, w_an_back, ↓EVd, ↓ft_X5_walk, ↓reduceIte, ↓EV_obs, ↓EV_obn, ↓EV_ais, ↓EV_ain, ↓EV_ob hW2.1, ↓EV_ai r1, mdF, mRun, List.mem_cons, List.not_mem_nil, or_false, mtab_eq, Nat.reduceEqDiff, Nat.zero_add, hd1, cc, vc, e1, el1, mset2, b10, b00, not_true_eq_false, not_false_eq_true, true_implies, false_implies, implies_true, and_true, true_and, Nat.le_refl, true_or, or_true, eq_self, List.length_cons, List.length_nil, Nat.reduceAdd, Nat.reduceLT, Nat.reduceLeDiff]
    have hV2 : VR es (vset V' cur (q, true, l)) a2 := by
      intro c hc
      have z := hV1 c hc
      revert z
      unfold vAt
      rw [hu2 3 (by omega), hu2 4 (by omega), hu2 5 (by omega)]
      exact id
    refine w_mark (b := false) hW2 hV2 hback rfl rfl rfl rfl (fun h3 a3 hW3 hV3 hu3 hk3' => ?_)
    simp (disch := omega) only [↓EVk, ↓w_if_eq, ↓w_an_ite, ↓mEndK, ↓w_retK0, ↓w_fitK, ↓w_dupK, ↓w_dup2K, w_an_back, ↓EVd, ↓ft_X5_walk, ↓reduceIte, ↓EV_obs, ↓EV_obn, ↓EV_ais, ↓EV_ain, ↓EV_ob hW3.1, mdF, mRun, List.mem_cons, List.not_mem_nil, or_false, mtab_eq, Nat.reduceEqDiff, Nat.zero_add, hd1, mset2, b10, b00, not_true_eq_false, not_false_eq_true, true_implies, false_implies, implies_true, and_true, true_and, Nat.le_refl, true_or, or_true, eq_self, List.length_cons, List.length_nil, Nat.reduceAdd, Nat.reduceLT, Nat.reduceLeDiff]
    refine MW.run1 gd_X5_walk [49] 30 ?_
    have ea := and1 hback
    have ex := xor1 hback
    have em : (nI (mt es cur % 2) = 1) = (mt es cur % 2 = 1) := by
      simp (disch := omega) only [z_nI, z_lit, z_neg, z_add, z_sub, z_mul, z_lt, z_le, z_eq, z_in, z_cl]
      exact propext ⟨fun _ => by omega, fun _ => by omega⟩
    have hU3 : UD a3 q (u + (if ab es cur = true then 0 else 1)) (e + (if ab es cur = true then 1 else 0)) := ⟨by rw [hu3 8 (by omega)]; exact hU2.1, by rw [hu3 7 (by omega)]; exact hU2.2⟩
    have fin : ∀ (b : Bool) (h4 : mH) (a4 : Nat → Nat → Int32), (if b = true then (0 : Nat) else 1) = (if mt es cur % 2 = 1 then 0 else 1) → (if b = true then (1 : Nat) else 0) = (if mt es cur % 2 = 1 then 1 else 0) → WaysC h4 G W wo ac (nI (q + 1)) R a4 → UD a4 q (u + (if ab es cur = true then 0 else 1) + (if b = true then 0 else 1)) (e + (if ab es cur = true then 1 else 0) + (if b = true then 1 else 0)) → (∀ k, k ≤ 6 → a4 k = a3 k) → (∀ j, j ≠ q → a4 7 j = a3 7 j ∧ a4 8 j = a3 8 j) → mKeep h3 h4 W (W + 45) → if ¬nI (par (mt es cur)) = nI (2 * j + 1) then MW G MX5_walk (mz G d 0 0 post) 49 [some (.ref W), some (.int (nI (2 * j + 1))), some (.int (nI q)), some (.int (nI (par (mt es cur)))), some (.int (zI (lv2 es cur l))), some (.int (nI s + 1)), some (.int (nI (mt es cur)))] [] h4 (N, 0, 0) else post none h4 := by
      intro b h4 a4 hb hb' hW4 hU4 hu4 hv4 hk4
      have U4 : UD a4 q (u + wu es cur) (e + wd es cur) := by
        unfold wu wd
        rw [← hb, ← hb', ← Nat.add_assoc, ← Nat.add_assoc]
        exact hU4
      have V4 : VR es (v2 es q V' cur l) a4 := by
        intro c hc
        have z := hV3 c hc
        revert z
        unfold vAt
        rw [hu4 3 (by omega), hu4 4 (by omega), hu4 5 (by omega)]
        exact id
      have b6 : a4 6 = a' 6 := by rw [hu4 6 (by omega), hu3 6 (by omega), hu2 6 (by omega), hu1 6 (by omega)]
      have kk : mKeep h h4 W (W + 45) := mKeep_trans (mKeep_trans (mKeep_trans (mKeep_trans hk hk1) hk2) hk3') hk4
      have b3 : ∀ k, k < 3 → a4 k = a k := fun k hk => by rw [hu4 k (by omega), hu3 k (by omega), hu2 k (by omega), hu1 k (by omega), hk3 k hk]
      have bo : ∀ i, i ≠ q → a4 6 i = a 6 i ∧ a4 7 i = a 7 i ∧ a4 8 i = a 8 i := fun i hi => by
        obtain ⟨o6, o7, o8⟩ := hot i hi
        rw [b6, (hv4 i hi).1, (hv4 i hi).2, hu3 7 (by omega), hu3 8 (by omega), (hv2 i hi).1, (hv2 i hi).2, hu1 7 (by omega), hu1 8 (by omega)]
        exact ⟨o6, o7, o8⟩
      have hpl := s1.1
      by_cases ce : par (mt es cur) = 2 * j + 1
      · rw [if_neg (by rw [ce]; exact fun z => z rfl)]
        have es1 : wlk es q (15 - s) (v2 es q V' cur l) (u + wu es cur) (e + wd es cur) (par (mt es cur)) (lv2 es cur l) = (v2 es q V' cur l, u + wu es cur, e + wd es cur) := by
          have ss : ((v2 es q V' cur l) (par (mt es cur))).isSome = true := by
            obtain ⟨-, ⟨z0, -, -⟩ | ⟨last, -, -, z⟩⟩ := s1
            · exact (z0 _ (v2_some.mpr (Or.inr (Or.inl rfl)))).2.2
            · exact z.mpr ce
          rw [show 15 - s = (14 - s) + 1 by omega]
          unfold wlk
          rw [if_pos ss]
        rw [es1] at hRR
        rw [hRR] at hp
        exact hp h4 a4 hW4 V4 U4 (by rw [b6]; exact h6) b3 bo kk
      · have cn : nI (par (mt es cur)) ≠ nI (2 * j + 1) := by
          intro z
          exact ce ((nI_eq (by omega) (by omega)).mp z)
        rw [if_pos cn, nI_1]
        refine ih _ _ ⟨a4, v2 es q V' cur l, u + wu es cur, e + wd es cur, par (mt es cur), lv2 es cur l, _, rfl, hW4, V4, U4, by rw [b6]; exact h6, b3, bo, s1, ?_, by omega, ?_, kk⟩
        · cases o : v2 es q V' cur l (par (mt es cur)) with
          | none => rfl
          | some m =>
            exfalso
            have ss : ((v2 es q V' cur l) (par (mt es cur))).isSome = true := by rw [o]; rfl
            obtain ⟨-, ⟨-, -, z2⟩ | ⟨last, -, -, z⟩⟩ := s1
            · rw [o] at z2
              exact absurd z2 (by simp)
            · exact ce (z.mp ss)
        · rw [hRR, show 16 - (s + 1) = 15 - s by omega]
    by_cases cb : mt es cur % 2 = 1
    · have fb : (nI (mt es cur % 2) = 1) = True := by rw [em]; exact eq_true cb
      have el2 : zI (lv1 es cur l) + -1 = zI (lv2 es cur l) := by
        unfold lv2
        rw [if_pos cb]
        exact zI_dn _
      simp (disch := omega) only [↓EVk, ↓w_if_eq, ↓w_an_ite, ↓mEndK, ↓w_retK0, ↓w_fitK, ↓w_dupK, ↓w_dup2K, w_an_back, ↓EVd, ↓ft_X5_walk, ↓reduceIte, ↓EV_obs, ↓EV_obn, ↓EV_ais, ↓EV_ain, ↓EV_ob hW3.1, mdF, mRun, List.mem_cons, List.not_mem_nil, or_false, mtab_eq, Nat.reduceEqDiff, Nat.zero_add, hd1, ea, fb, mset2, b10, b00, not_true_eq_false, not_false_eq_true, true_implies, false_implies, implies_true, and_true, true_and, Nat.le_refl, true_or, or_true, eq_self, List.length_cons, List.length_nil, Nat.reduceAdd, Nat.reduceLT, Nat.reduceLeDiff]
      refine w_turnCorner (b := true) hW3 hq rfl rfl hU3 (fun h4 a4 hW4 hU4 hu4 hv4 hk4 => ?_)
      simp (disch := omega) only [↓EVk, ↓w_if_eq, ↓w_an_ite, ↓mEndK, ↓w_retK0, ↓w_fitK, ↓w_dupK, ↓w_dup2K, w_an_back, ↓EVd, ↓ft_X5_walk, ↓reduceIte, ↓EV_obs, ↓EV_obn, ↓EV_ais, ↓EV_ain, ↓EV_ob hW4.1, mdF, mRun, List.mem_cons, List.not_mem_nil, or_false, mtab_eq, Nat.reduceEqDiff, Nat.zero_add, hd1, ex, el2, mset2, b10, b00, not_true_eq_false, not_false_eq_true, true_implies, false_implies, implies_true, and_true, true_and, Nat.le_refl, true_or, or_true, eq_self, List.length_cons, List.length_nil, Nat.reduceAdd, Nat.reduceLT, Nat.reduceLeDiff]
      exact fin true h4 a4 (by rw [if_pos rfl, if_pos cb]) (by rw [if_pos rfl, if_pos cb]) hW4 hU4 hu4 hv4 hk4
    · have fb : (nI (mt es cur % 2) = 1) = False := by rw [em]; exact eq_false cb
      have el2 : zI (lv1 es cur l) + 1 = zI (lv2 es cur l) := by
        unfold lv2
        rw [if_neg cb]
        exact zI_up _
      simp (disch := omega) only [↓EVk, ↓w_if_eq, ↓w_an_ite, ↓mEndK, ↓w_retK0, ↓w_fitK, ↓w_dupK, ↓w_dup2K, w_an_back, ↓EVd, ↓ft_X5_walk, ↓reduceIte, ↓EV_obs, ↓EV_obn, ↓EV_ais, ↓EV_ain, ↓EV_ob hW3.1, mdF, mRun, List.mem_cons, List.not_mem_nil, or_false, mtab_eq, Nat.reduceEqDiff, Nat.zero_add, hd1, ea, fb, mset2, b10, b00, not_true_eq_false, not_false_eq_true, true_implies, false_implies, implies_true, and_true, true_and, Nat.le_refl, true_or, or_true, eq_self, List.length_cons, List.length_nil, Nat.reduceAdd, Nat.reduceLT, Nat.reduceLeDiff]
      refine w_turnCorner (b := false) hW3 hq rfl rfl hU3 (fun h4 a4 hW4 hU4 hu4 hv4 hk4 => ?_)
      simp (disch := omega) only [↓EVk, ↓w_if_eq, ↓w_an_ite, ↓mEndK, ↓w_retK0, ↓w_fitK, ↓w_dupK, ↓w_dup2K, w_an_back, ↓EVd, ↓ft_X5_walk, ↓reduceIte, ↓EV_obs, ↓EV_obn, ↓EV_ais, ↓EV_ain, ↓EV_ob hW4.1, mdF, mRun, List.mem_cons, List.not_mem_nil, or_false, mtab_eq, Nat.reduceEqDiff, Nat.zero_add, hd1, ex, Bool.false_eq_true, el2, mset2, b10, b00, not_true_eq_false, not_false_eq_true, true_implies, false_implies, implies_true, and_true, true_and, Nat.le_refl, true_or, or_true, eq_self, List.length_cons, List.length_nil, Nat.reduceAdd, Nat.reduceLT, Nat.reduceLeDiff]
      exact fin false h4 a4 (by rw [if_neg (by decide), if_neg cb]) (by rw [if_neg (by decide), if_neg cb]) hW4 hU4 hu4 hv4 hk4
  · rintro L h' ⟨a', V', u, e, cur, l, x6, rfl, hW', hV', hU', h6, hk3, hot, hWP, hnc, hcnt, hRR, hk⟩
    exfalso
    have := cnt_full hWP.1 hnc
    omega
  · unfold aset
    rw [if_neg (by omega), if_neg (by omega), if_neg (by omega)]
end WYS
