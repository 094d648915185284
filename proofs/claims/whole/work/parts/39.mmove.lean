/-! the model: moves -/
noncomputable def aRepl (f i : Nat) (pl : Option (Nat × List Ev)) (S : AS) : Int32 × AS := match pl with
  | none => (-2, S)
  | some q => @ite _ (vld (repl (S.1.getD f []) i q.1 q.2)) (Classical.propDecidable _) (nI (repl (S.1.getD f []) i q.1 q.2).length, (S.1.set f (repl (S.1.getD f []) i q.1 q.2), S.2)) (-3, S)
noncomputable def aMove (f k i : Int32) (S : AS) : Int32 × AS := if isF S f ∧ (0 ≤ i ∧ i < nI (fr S f).length) ∧ (0 ≤ k ∧ k ≤ 4) then aRepl f.toNatClampNeg i.toNatClampNeg (mvP (fr S f) k.toNatClampNeg i.toNatClampNeg) S else (-1, S)
noncomputable def aAdd (f k i j : Int32) (S : AS) : Int32 × AS := if isF S f ∧ (0 ≤ k ∧ k ≤ 3) ∧ (0 ≤ i ∧ i ≤ nI (fr S f).length) ∧ (0 ≤ j ∧ j < nI (ahL ((fr S f).take i.toNatClampNeg))) then aRepl f.toNatClampNeg i.toNatClampNeg (some (0, adP k.toNatClampNeg j.toNatClampNeg)) S else (-1, S)
noncomputable def aPush (f k i : Int32) (S : AS) : Int32 × AS := if isF S f ∧ (0 ≤ i ∧ i < nI (fr S f).length) ∧ (0 ≤ k ∧ k ≤ 1) then aRepl f.toNatClampNeg i.toNatClampNeg (psP (fr S f) k.toNatClampNeg i.toNatClampNeg) S else (-1, S)
theorem getD_set {α : Type} {l : List α} {f g : Nat} {x dflt : α} (h : f < l.length) : (l.set f x).getD g dflt = if g = f then x else l.getD g dflt := by
  rw [List.getD_eq_getElem?_getD, List.getElem?_set]
  by_cases c : f = g
  · subst c
    simp [h]
  · rw [if_neg c, if_neg (fun z => c z.symm), ← List.getD_eq_getElem?_getD]
theorem st_up {es : List Ev} (hv : vld es) {i a b c : Nat} (ha : a ≤ 2) (hb : b ≤ 2) (hc : c ≤ 2) : (kA es i = nI a ∧ kA es (i + 1) = nI b ∧ kA es (i + 2) = nI c ∧ pA es (i + 1) = pA es i + 1 ∧ pA es (i + 2) = pA es i + 0) ↔ (i + 2 < es.length ∧ evK es i = a ∧ evK es (i + 1) = b ∧ evK es (i + 2) = c ∧ evP es (i + 2) = evP es i ∧ evP es (i + 1) = evP es i + 1) := by
  unfold kA pA
  by_cases h2 : i + 2 < es.length
  · have s0 := vld_sm hv (i := i) (by omega)
    have s1 := vld_sm hv (i := i + 1) (by omega)
    have s2 := vld_sm hv (i := i + 2) (by omega)
    rw [if_pos h2, if_pos (by omega), if_pos (by omega), if_pos h2, if_pos (by omega), if_pos (by omega)]
    simp (disch := omega) only [z_nI, z_lit, z_neg, z_add, z_sub, z_mul, z_lt, z_le, z_eq, z_in, z_cl]
    omega
  · rw [if_neg h2]
    constructor
    · rintro ⟨_, _, z, _⟩
      simp (disch := omega) only [z_nI, z_lit, z_neg, z_add, z_sub, z_mul, z_lt, z_le, z_eq, z_in, z_cl] at z
      omega
    · rintro ⟨z, _⟩
      exact absurd z h2
theorem st_dn {es : List Ev} (hv : vld es) {i a b c : Nat} (ha : a ≤ 2) (hb : b ≤ 2) (hc : c ≤ 2) : (kA es i = nI a ∧ kA es (i + 1) = nI b ∧ kA es (i + 2) = nI c ∧ pA es (i + 1) = pA es i + -1 ∧ pA es (i + 2) = pA es i + 0) ↔ (i + 2 < es.length ∧ evK es i = a ∧ evK es (i + 1) = b ∧ evK es (i + 2) = c ∧ evP es (i + 2) = evP es i ∧ evP es i = evP es (i + 1) + 1) := by
  unfold kA pA
  by_cases h2 : i + 2 < es.length
  · have s0 := vld_sm hv (i := i) (by omega)
    have s1 := vld_sm hv (i := i + 1) (by omega)
    have s2 := vld_sm hv (i := i + 2) (by omega)
    rw [if_pos h2, if_pos (by omega), if_pos (by omega), if_pos h2, if_pos (by omega), if_pos (by omega)]
    simp (disch := omega) only [z_nI, z_lit, z_neg, z_add, z_sub, z_mul, z_lt, z_le, z_eq, z_in, z_cl]
    omega
  · rw [if_neg h2]
    constructor
    · rintro ⟨_, _, z, _⟩
      simp (disch := omega) only [z_nI, z_lit, z_neg, z_add, z_sub, z_mul, z_lt, z_le, z_eq, z_in, z_cl] at z
      omega
    · rintro ⟨z, _⟩
      exact absurd z h2
section MCS
variable {G : mG} {d N M : Nat} {S : AS} {h : mH} {post : Option Value → mH → Prop} {v : Nat → Int32} {a : Nat → Nat → Int32}
set_option maxRecDepth 10000 in
theorem c_stands {f i : Nat} {es : List Ev} {x y z far far2 : Int32} (hd : 1 ≤ d) (hM : ModelC h G M v a) (hs : slotR a f es) (hf : f < 8) (h30 : es.length ≤ 30) (hi : i < 50)
    (hp : post (some (.int (if kA es i = x ∧ kA es (i + 1) = y ∧ kA es (i + 2) = z ∧ pA es (i + 1) = pA es i + far ∧ pA es (i + 2) = pA es i + far2 then 1 else 0))) h) : MC G MX7_stands d 0 0 [.ref M, .int (nI f), .int (nI i), .int x, .int y, .int far, .int z, .int far2] h N post := by
  have h0 := hM.1
  have e2 : nI i + 2 = nI (i + 2) := nI_add i 2
  refine MC.of (L0 := [some (.ref M), some (.int (nI f)), some (.int (nI i)), some (.int x), some (.int y), some (.int far), some (.int z), some (.int far2)]) gd_X7_stands (Nat.le_of_ble_eq_true rfl) rfl (MW.run gd_X7_stands [] 60 ?_)
  simp (disch := omega) only [↓EVi, ↓EVc, ↓ft_X7_stands, ↓reduceIte, ↓EV_obs, ↓EV_obn, ↓EV_ais, ↓EV_ain, ↓EV_ob h0, mdF, mRun, List.mem_cons, List.not_mem_nil, or_false, mtab_eq, Nat.reduceEqDiff, Nat.zero_add, hd, mset2, b10, b00, not_true_eq_false, not_false_eq_true, true_implies, false_implies, implies_true, and_true, true_and, Nat.le_refl, true_or, or_true, eq_self, List.length_cons, List.length_nil, Nat.reduceAdd, Nat.reduceLT, Nat.reduceLeDiff]
  refine c_kindAt hM hs hf h30 (by omega) ?_
  by_cases c1 : kA es i = x
  case neg =>
    rw [if_neg (fun q => c1 q.1)] at hp
    have f1 : (kA es i = x) = False := eq_false c1
    simp (disch := omega) only [↓EVi, ↓EVc, ↓ft_X7_stands, ↓reduceIte, ↓EV_obs, ↓EV_obn, ↓EV_ais, ↓EV_ain, ↓EV_ob h0, mdF, mRun, List.mem_cons, List.not_mem_nil, or_false, mtab_eq, Nat.reduceEqDiff, Nat.zero_add, hd, f1, mset2, b10, b00, not_true_eq_false, not_false_eq_true, true_implies, false_implies, implies_true, and_true, true_and, Nat.le_refl, true_or, or_true, eq_self, List.length_cons, List.length_nil, Nat.reduceAdd, Nat.reduceLT, Nat.reduceLeDiff]
    exact hp
  have f1 : (kA es i = x) = True := eq_true c1
  simp (disch := omega) only [↓EVi, ↓EVc, ↓ft_X7_stands, ↓reduceIte, ↓EV_obs, ↓EV_obn, ↓EV_ais, ↓EV_ain, ↓EV_ob h0, mdF, mRun, List.mem_cons, List.not_mem_nil, or_false, mtab_eq, Nat.reduceEqDiff, Nat.zero_add, hd, f1, mset2, b10, b00, not_true_eq_false, not_false_eq_true, true_implies, false_implies, implies_true, and_true, true_and, Nat.le_refl, true_or, or_true, eq_self, List.length_cons, List.length_nil, Nat.reduceAdd, Nat.reduceLT, Nat.reduceLeDiff]
  rw [nI_1]
  refine c_kindAt hM hs hf h30 (by omega) ?_
  by_cases c2 : kA es (i + 1) = y
  case neg =>
    rw [if_neg (fun q => c2 q.2.1)] at hp
    have f1 : (kA es (i + 1) = y) = False := eq_false c2
    simp (disch := omega) only [↓EVi, ↓EVc, ↓ft_X7_stands, ↓reduceIte, ↓EV_obs, ↓EV_obn, ↓EV_ais, ↓EV_ain, ↓EV_ob h0, mdF, mRun, List.mem_cons, List.not_mem_nil, or_false, mtab_eq, Nat.reduceEqDiff, Nat.zero_add, hd, f1, mset2, b10, b00, not_true_eq_false, not_false_eq_true, true_implies, false_implies, implies_true, and_true, true_and, Nat.le_refl, true_or, or_true, eq_self, List.length_cons, List.length_nil, Nat.reduceAdd, Nat.reduceLT, Nat.reduceLeDiff]
    exact hp
  have f1 : (kA es (i + 1) = y) = True := eq_true c2
  simp (disch := omega) only [↓EVi, ↓EVc, ↓ft_X7_stands, ↓reduceIte, ↓EV_obs, ↓EV_obn, ↓EV_ais, ↓EV_ain, ↓EV_ob h0, mdF, mRun, List.mem_cons, List.not_mem_nil, or_false, mtab_eq, Nat.reduceEqDiff, Nat.zero_add, hd, f1, mset2, b10, b00, not_true_eq_false, not_false_eq_true, true_implies, false_implies, implies_true, and_true, true_and, Nat.le_refl, true_or, or_true, eq_self, List.length_cons, List.length_nil, Nat.reduceAdd, Nat.reduceLT, Nat.reduceLeDiff]
  rw [e2]
  refine c_kindAt hM hs hf h30 (by omega) ?_
  by_cases c3 : kA es (i + 2) = z
  case neg =>
    rw [if_neg (fun q => c3 q.2.2.1)] at hp
    have f1 : (kA es (i + 2) = z) = False := eq_false c3
    simp (disch := omega) only [↓EVi, ↓EVc, ↓ft_X7_stands, ↓reduceIte, ↓EV_obs, ↓EV_obn, ↓EV_ais, ↓EV_ain, ↓EV_ob h0, mdF, mRun, List.mem_cons, List.not_mem_nil, or_false, mtab_eq, Nat.reduceEqDiff, Nat.zero_add, hd, f1, mset2, b10, b00, not_true_eq_false, not_false_eq_true, true_implies, false_implies, implies_true, and_true, true_and, Nat.le_refl, true_or, or_true, eq_self, List.length_cons, List.length_nil, Nat.reduceAdd, Nat.reduceLT, Nat.reduceLeDiff]
    exact hp
  have f1 : (kA es (i + 2) = z) = True := eq_true c3
  simp (disch := omega) only [↓EVi, ↓EVc, ↓ft_X7_stands, ↓reduceIte, ↓EV_obs, ↓EV_obn, ↓EV_ais, ↓EV_ain, ↓EV_ob h0, mdF, mRun, List.mem_cons, List.not_mem_nil, or_false, mtab_eq, Nat.reduceEqDiff, Nat.zero_add, hd, f1, mset2, b10, b00, not_true_eq_false, not_false_eq_true, true_implies, false_implies, implies_true, and_true, true_and, Nat.le_refl, true_or, or_true, eq_self, List.length_cons, List.length_nil, Nat.reduceAdd, Nat.reduceLT, Nat.reduceLeDiff]
  rw [nI_1]
  refine c_numberAt hM hs hf h30 (by omega) ?_
  simp (disch := omega) only [↓EVi, ↓EVc, ↓ft_X7_stands, ↓reduceIte, ↓EV_obs, ↓EV_obn, ↓EV_ais, ↓EV_ain, ↓EV_ob h0, mdF, mRun, List.mem_cons, List.not_mem_nil, or_false, mtab_eq, Nat.reduceEqDiff, Nat.zero_add, hd, mset2, b10, b00, not_true_eq_false, not_false_eq_true, true_implies, false_implies, implies_true, and_true, true_and, Nat.le_refl, true_or, or_true, eq_self, List.length_cons, List.length_nil, Nat.reduceAdd, Nat.reduceLT, Nat.reduceLeDiff]
  refine c_numberAt hM hs hf h30 (by omega) ?_
  by_cases c4 : pA es (i + 1) = pA es i + far
  case neg =>
    rw [if_neg (fun q => c4 q.2.2.2.1)] at hp
    have f1 : (pA es (i + 1) = pA es i + far) = False := eq_false c4
    simp (disch := omega) only [↓EVi, ↓EVc, ↓ft_X7_stands, ↓reduceIte, ↓EV_obs, ↓EV_obn, ↓EV_ais, ↓EV_ain, ↓EV_ob h0, mdF, mRun, List.mem_cons, List.not_mem_nil, or_false, mtab_eq, Nat.reduceEqDiff, Nat.zero_add, hd, f1, mset2, b10, b00, not_true_eq_false, not_false_eq_true, true_implies, false_implies, implies_true, and_true, true_and, Nat.le_refl, true_or, or_true, eq_self, List.length_cons, List.length_nil, Nat.reduceAdd, Nat.reduceLT, Nat.reduceLeDiff]
    exact hp
  have f1 : (pA es (i + 1) = pA es i + far) = True := eq_true c4
  simp (disch := omega) only [↓EVi, ↓EVc, ↓ft_X7_stands, ↓reduceIte, ↓EV_obs, ↓EV_obn, ↓EV_ais, ↓EV_ain, ↓EV_ob h0, mdF, mRun, List.mem_cons, List.not_mem_nil, or_false, mtab_eq, Nat.reduceEqDiff, Nat.zero_add, hd, f1, mset2, b10, b00, not_true_eq_false, not_false_eq_true, true_implies, false_implies, implies_true, and_true, true_and, Nat.le_refl, true_or, or_true, eq_self, List.length_cons, List.length_nil, Nat.reduceAdd, Nat.reduceLT, Nat.reduceLeDiff]
  rw [e2]
  refine c_numberAt hM hs hf h30 (by omega) ?_
  simp (disch := omega) only [↓EVi, ↓EVc, ↓ft_X7_stands, ↓reduceIte, ↓EV_obs, ↓EV_obn, ↓EV_ais, ↓EV_ain, ↓EV_ob h0, mdF, mRun, List.mem_cons, List.not_mem_nil, or_false, mtab_eq, Nat.reduceEqDiff, Nat.zero_add, hd, mset2, b10, b00, not_true_eq_false, not_false_eq_true, true_implies, false_implies, implies_true, and_true, true_and, Nat.le_refl, true_or, or_true, eq_self, List.length_cons, List.length_nil, Nat.reduceAdd, Nat.reduceLT, Nat.reduceLeDiff]
  refine c_numberAt hM hs hf h30 (by omega) ?_
  by_cases c5 : pA es (i + 2) = pA es i + far2
  case neg =>
    rw [if_neg (fun q => c5 q.2.2.2.2)] at hp
    have f1 : (pA es (i + 2) = pA es i + far2) = False := eq_false c5
    simp (disch := omega) only [↓EVi, ↓EVc, ↓ft_X7_stands, ↓reduceIte, ↓EV_obs, ↓EV_obn, ↓EV_ais, ↓EV_ain, ↓EV_ob h0, mdF, mRun, List.mem_cons, List.not_mem_nil, or_false, mtab_eq, Nat.reduceEqDiff, Nat.zero_add, hd, f1, mset2, b10, b00, not_true_eq_false, not_false_eq_true, true_implies, false_implies, implies_true, and_true, true_and, Nat.le_refl, true_or, or_true, eq_self, List.length_cons, List.length_nil, Nat.reduceAdd, Nat.reduceLT, Nat.reduceLeDiff]
    exact hp
  rw [if_pos ⟨c1, c2, c3, c4, c5⟩] at hp
  have f1 : (pA es (i + 2) = pA es i + far2) = True := eq_true c5
  simp (disch := omega) only [↓EVi, ↓EVc, ↓ft_X7_stands, ↓reduceIte, ↓EV_obs, ↓EV_obn, ↓EV_ais, ↓EV_ain, ↓EV_ob h0, mdF, mRun, List.mem_cons, List.not_mem_nil, or_false, mtab_eq, Nat.reduceEqDiff, Nat.zero_add, hd, f1, mset2, b10, b00, not_true_eq_false, not_false_eq_true, true_implies, false_implies, implies_true, and_true, true_and, Nat.le_refl, true_or, or_true, eq_self, List.length_cons, List.length_nil, Nat.reduceAdd, Nat.reduceLT, Nat.reduceLeDiff]
  exact hp
/-- the new list begins with the first i events of front f -/
theorem n_zero {f i : Nat} (hd : 1 ≤ d) (hI : SInv S) (hM : ModelC h G M v a) (hL : MRel v a S) (hf : f < S.1.length) (hi : i ≤ (S.1.getD f []).length)
    (hp : ∀ h' v' a', ModelC h' G M v' a' → MRel v' a' S → newR v' a' ((S.1.getD f []).take i) → mKeep h h' M (M + 17) → post none h') : MC G MX7_putOf d 0 0 [.ref M, .int (nI f), .int 0, .int (nI i)] (mset h M (.inr (7, mdF M (upd v 4 0)))) N post := by
  have h8 := hI.1
  have h30 := (vld_bd (hI.2.1 f hf).1).1
  have hM1 := ModelC_v (v' := upd v 4 0) hM
  refine c_putOf (es := []) (i := 0) (fs := S.1.getD f []) hd hM1 ⟨pk_us, fun i hi => absurd hi (Nat.not_lt_zero i)⟩ (hL.2.1 f hf) (by omega) (Nat.zero_le _) hi h30 (by rw [List.length_nil]; omega) (fun h' v' a' hM' hN hv ha hk => ?_)
  rw [Nat.sub_zero, List.drop_zero, List.nil_append] at hN
  exact hp h' v' a' hM' (MRel_congr hL (fun k hk => by rw [hv k (by omega), pk_un (by omega)]) (fun k hk => ha k (by omega) (by omega))) hN (mKeep_trans (fun z hz => mset_ne (by omega)) hk)
theorem n_put {x y : Int32} {k p : Nat} {ns : List Ev} (hM : ModelC h G M v a) (hL : MRel v a S) (hN : newR v a ns) (h64 : ns.length < 64) (hx : x = nI k) (hy : y = nI p)
    (hp : ∀ h' v' a', ModelC h' G M v' a' → MRel v' a' S → newR v' a' (ns ++ [(k, p)]) → mKeep h h' M (M + 17) → post none h') : MC G MX7_put d 0 0 [.ref M, .int x, .int y] h N post := by
  subst hx
  subst hy
  exact c_put hM hN h64 (fun h' v' a' hM' hN' hv ha hk => hp h' v' a' hM' (MRel_congr hL (fun k hk => hv k (by omega)) (fun k hk => ha k (by omega) (by omega))) hN' hk)
set_option maxRecDepth 10000 in
theorem n_rest {f j : Nat} {x : Int32} {ns : List Ev} (hd : 2 ≤ d) (hI : SInv S) (hM : ModelC h G M v a) (hL : MRel v a S) (hN : newR v a ns) (hf : f < S.1.length) (hx : x = nI j) (hj : j ≤ (S.1.getD f []).length) (h30 : (ns ++ (S.1.getD f []).drop j).length ≤ 30)
    (hp : ∀ h', MR h' G M (S.1.set f (ns ++ (S.1.getD f []).drop j), S.2) → mKeep h h' M (M + 17) → post (some (.int (nI (ns ++ (S.1.getD f []).drop j).length))) h') : MC G MX7_rest d 0 0 [.ref M, .int (nI f), .int x] h N post := by
  subst hx
  have hd1 : 1 ≤ d := by omega
  have h8 := hI.1
  have b30 := (vld_bd (hI.2.1 f hf).1).1
  have h0 := hM.1
  have a1 : h (M + 1) = some (.inl (gC G 0, 8, .inl (a 1))) := hM.2 1 (by decide) (by decide)
  have hs := hL.2.1 f hf
  have vf : vp_in (nI f) 8 := vp_in_nI (by omega) (by decide)
  have hcf : (nI f).toNatClampNeg = f := nI_clamp (by omega)
  refine MC.of (L0 := [some (.ref M), some (.int (nI f)), some (.int (nI j))]) gd_X7_rest (Nat.le_of_ble_eq_true rfl) rfl (MW.run gd_X7_rest [] 40 ?_)
  simp (disch := omega) only [↓EVi, ↓EVc, ↓ft_X7_rest, ↓reduceIte, ↓EV_obs, ↓EV_obn, ↓EV_ais, ↓EV_ain, ↓EV_ob h0, ↓EV_ai a1, mdF, mRun, List.mem_cons, List.not_mem_nil, or_false, mtab_eq, Nat.reduceEqDiff, Nat.zero_add, hd1, mset2, b10, b00, not_true_eq_false, not_false_eq_true, true_implies, false_implies, implies_true, and_true, true_and, Nat.le_refl, true_or, or_true, eq_self, List.length_cons, List.length_nil, Nat.reduceAdd, Nat.reduceLT, Nat.reduceLeDiff]
  rw [hcf, hs.1]
  have el : ((S.1.getD f []).drop j).take ((S.1.getD f []).length - j) = (S.1.getD f []).drop j := List.take_of_length_le (by rw [List.length_drop]; omega)
  rw [List.length_append, List.length_drop] at h30
  refine ⟨vf, c_putOf (fs := S.1.getD f []) (by omega) hM hN hs (by omega) hj (Nat.le_refl _) b30 (by omega) (fun h1 v1 a1' hM1 hN1 hv1 ha1 hk1 => ?_)⟩
  rw [el] at hN1
  simp (disch := omega) only [↓EVi, ↓EVc, ↓ft_X7_rest, ↓reduceIte, ↓EV_obs, ↓EV_obn, ↓EV_ais, ↓EV_ain, ↓EV_ob hM1.1, mdF, mRun, List.mem_cons, List.not_mem_nil, or_false, mtab_eq, Nat.reduceEqDiff, Nat.zero_add, hd1, mset2, b10, b00, not_true_eq_false, not_false_eq_true, true_implies, false_implies, implies_true, and_true, true_and, Nat.le_refl, true_or, or_true, eq_self, List.length_cons, List.length_nil, Nat.reduceAdd, Nat.reduceLT, Nat.reduceLeDiff]
  have hL1 : MRel v1 a1' S := MRel_congr hL (fun k hk => hv1 k (by omega)) (fun k hk => ha1 k (by omega) (by omega))
  refine m_store hM1 hN1 (by omega) (by rw [List.length_append, List.length_drop]; omega) (fun h2 a2 hM2 hs2 ho2 hk4 hk2 => ?_)
  have a12 : h2 (M + 1) = some (.inl (gC G 0, 8, .inl (a2 1))) := hM2.2 1 (by decide) (by decide)
  simp (disch := omega) only [↓EVi, ↓EVc, ↓ft_X7_rest, ↓reduceIte, ↓EV_obs, ↓EV_obn, ↓EV_ais, ↓EV_ain, ↓EV_ob hM2.1, ↓EV_ai a12, mdF, mRun, List.mem_cons, List.not_mem_nil, or_false, mtab_eq, Nat.reduceEqDiff, Nat.zero_add, hd1, mset2, b10, b00, not_true_eq_false, not_false_eq_true, true_implies, false_implies, implies_true, and_true, true_and, Nat.le_refl, true_or, or_true, eq_self, List.length_cons, List.length_nil, Nat.reduceAdd, Nat.reduceLT, Nat.reduceLeDiff]
  rw [hcf, hs2.1]
  refine ⟨vf, hp h2 ⟨v1, a2, hM2, by rw [hL1.1]; simp, fun g hg => ?_, hL1.2.2.1, fun i hi => by rw [hk4 6 (by decide)]; exact hL1.2.2.2.1 i hi, hL1.2.2.2.2.1, ?_⟩ (mKeep_trans hk1 hk2)⟩
  · have hg' : g < S.1.length := by simpa using hg
    show slotR a2 g ((S.1.set f (ns ++ (S.1.getD f []).drop j)).getD g [])
    rw [getD_set hf]
    by_cases e : g = f
    · subst e
      rw [if_pos rfl]
      exact hs2
    · rw [if_neg e]
      exact ho2 g _ e (vld_bd (hI.2.1 g hg').1).1 (hL1.2.1 g hg')
  · rw [hk4 7 (by decide), hk4 8 (by decide), hk4 9 (by decide)]
    exact hL1.2.2.2.2.2
end MCS
