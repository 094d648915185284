/-! the model: draw -/
/-- these two words are an event that can stand behind es -/
def okAt (es : List Ev) (k p : Int32) : Prop := ∃ k' p' : Nat, k = nI k' ∧ p = nI p' ∧ okEv es k' p'
noncomputable def drawL (c : Nat → Int32) (sz : Nat) (f : Int) : Nat → Nat → List Ev → Int32 ⊕ List Ev
  | 0, _, es => .inr es
  | n + 1, i, es => if 0 ≤ f + 2 * (i : Int) ∧ f + 2 * (i : Int) + 1 < (sz : Int) then @ite _ (okAt es (c (f + 2 * (i : Int)).toNat) (c ((f + 2 * (i : Int)).toNat + 1))) (Classical.propDecidable _) (drawL c sz f n (i + 1) (es ++ [((c (f + 2 * (i : Int)).toNat).toNatClampNeg, (c ((f + 2 * (i : Int)).toNat + 1)).toNatClampNeg)])) (.inl (-20 - nI i)) else .inl (-12)
theorem drawL_zero (c : Nat → Int32) (sz : Nat) (f : Int) (i : Nat) (es : List Ev) : drawL c sz f 0 i es = .inr es := rfl
theorem drawL_succ (c : Nat → Int32) (sz : Nat) (f : Int) (n i : Nat) (es : List Ev) : drawL c sz f (n + 1) i es = if 0 ≤ f + 2 * (i : Int) ∧ f + 2 * (i : Int) + 1 < (sz : Int) then @ite _ (okAt es (c (f + 2 * (i : Int)).toNat) (c ((f + 2 * (i : Int)).toNat + 1))) (Classical.propDecidable _) (drawL c sz f n (i + 1) (es ++ [((c (f + 2 * (i : Int)).toNat).toNatClampNeg, (c ((f + 2 * (i : Int)).toNat + 1)).toNatClampNeg)])) (.inl (-20 - nI i)) else .inl (-12) := rfl
noncomputable def aDraw (k l f n : Int32) (S : AS) : Int32 × AS :=
  if (0 ≤ k ∧ k ≤ 3) ∧ (0 ≤ l ∧ l ≤ 2) ∧ (1 ≤ n ∧ n ≤ 30) then
    (if (S.2.2.2 k.toNatClampNeg).1 = -4 then (-11, S) else if (S.2.2.2 k.toNatClampNeg).1 = l then
      (match drawL (S.2.2.2 k.toNatClampNeg).2.2 (S.2.2.2 k.toNatClampNeg).2.1 f.toInt n.toNatClampNeg 0 [] with
        | .inl r => (r, S)
        | .inr es => if 0 < ahL es then (-50, S) else if S.1.length = 8 then (-3, S) else (nI S.1.length, (S.1 ++ [es], S.2)))
      else (-13, S)) else (-1, S)
/-- the list that the model builds, with its strands and crosses -/
def bldR (v : Nat → Int32) (a : Nat → Nat → Int32) (es : List Ev) : Prop := newR v a es ∧ v 16 = nI (ahL es) ∧ v 17 = nI (crs es) ∧ vld es
theorem okAt_small {es : List Ev} {k p : Int32} (hv : vld es) (h : okAt es k p) : k = nI k.toNatClampNeg ∧ p = nI p.toNatClampNeg ∧ okEv es k.toNatClampNeg p.toNatClampNeg := by
  obtain ⟨k', p', rfl, rfl, ok⟩ := h
  have b := vld_bd hv
  have hk := ok.1
  have hp : p' ≤ 10 := by
    have := ok.2.2.2.2
    split at this <;> omega
  rw [nI_clamp (by omega), nI_clamp (by omega)]
  exact ⟨rfl, rfl, ok⟩
/-- the model's own tests say the same -/
theorem okAt_model {es : List Ev} {k p : Int32} (hv : vld es) : okAt es k p ↔ ((0 ≤ k ∧ k ≤ 2) ∧ ¬ (nI es.length = 30 ∨ (k = 1 ∧ nI (crs es) = 12) ∨ (k = 0 ∧ 10 < nI (ahL es) + 2)) ∧ (0 ≤ p ∧ p ≤ (if k = 0 then nI (ahL es) else nI (ahL es) - 2))) := by
  have b := vld_bd hv
  obtain ⟨kz, k1, k2, rfl⟩ := z_of k
  obtain ⟨pz, p1, p2, rfl⟩ := z_of p
  have hk0 : (zI kz = 0) = (kz = 0) := by simp (disch := omega) only [z_nI, z_lit, z_neg, z_add, z_sub, z_mul, z_lt, z_le, z_eq, z_in, z_cl]
  simp only [hk0]
  constructor
  · rintro ⟨k', p', e1, e2, ok⟩
    have hk := ok.1
    have hp : p' ≤ 10 := by
      have := ok.2.2.2.2
      split at this <;> omega
    simp (disch := omega) only [z_nI, z_lit, z_neg, z_add, z_sub, z_mul, z_lt, z_le, z_eq, z_in, z_cl] at e1 e2
    subst e1
    subst e2
    obtain ⟨o1, o2, o3, o4, o5⟩ := ok
    split
    · rw [if_pos (by omega)] at o5
      simp (disch := omega) only [z_nI, z_lit, z_neg, z_add, z_sub, z_mul, z_lt, z_le, z_eq, z_in, z_cl]
      omega
    · rw [if_neg (by omega)] at o5
      simp (disch := omega) only [z_nI, z_lit, z_neg, z_add, z_sub, z_mul, z_lt, z_le, z_eq, z_in, z_cl]
      omega
  · intro z
    split at z
    · simp (disch := omega) only [z_nI, z_lit, z_neg, z_add, z_sub, z_mul, z_lt, z_le, z_eq, z_in, z_cl] at z
      refine ⟨kz.toNat, pz.toNat, by simp (disch := omega) only [z_nI, z_lit, z_neg, z_add, z_sub, z_mul, z_lt, z_le, z_eq, z_in, z_cl]; omega, by simp (disch := omega) only [z_nI, z_lit, z_neg, z_add, z_sub, z_mul, z_lt, z_le, z_eq, z_in, z_cl]; omega, by omega, by omega, fun c => by omega, fun c => by omega, ?_⟩
      rw [if_pos (by omega)]
      omega
    · simp (disch := omega) only [z_nI, z_lit, z_neg, z_add, z_sub, z_mul, z_lt, z_le, z_eq, z_in, z_cl] at z
      refine ⟨kz.toNat, pz.toNat, by simp (disch := omega) only [z_nI, z_lit, z_neg, z_add, z_sub, z_mul, z_lt, z_le, z_eq, z_in, z_cl]; omega, by simp (disch := omega) only [z_nI, z_lit, z_neg, z_add, z_sub, z_mul, z_lt, z_le, z_eq, z_in, z_cl]; omega, by omega, by omega, fun c => by omega, fun c => by omega, ?_⟩
      rw [if_neg (by omega)]
      omega
section MCS
variable {G : mG} {d N M : Nat} {S : AS} {h : mH} {post : Option Value → mH → Prop}
theorem c_begin {v : Nat → Int32} {a : Nat → Nat → Int32} (hM : ModelC h G M v a) (hp : ∀ h' v', ModelC h' G M v' a → bldR v' a [] → (∀ j, j ≠ 4 → j ≠ 16 → j ≠ 17 → v' j = v j) → mKeep h h' M (M + 17) → post none h') : MC G MX7_begin d 0 0 [.ref M] h N post := by
  refine m_begin hM (fun h' hM' hk => hp h' _ hM' ⟨⟨?_, fun i hi => absurd hi (Nat.not_lt_zero i)⟩, ?_, pk_us, vld_nil⟩ (fun j h4 h16 h17 => ?_) hk)
  · rw [pk_un (by decide), pk_un (by decide), pk_us]
    rfl
  · rw [pk_un (by decide), pk_us]
    rfl
  · rw [pk_un h17, pk_un h16, pk_un h4]
theorem c_comes {v : Nat → Int32} {a : Nat → Nat → Int32} {k p : Int32} {es : List Ev} (hd : 1 ≤ d) (hM : ModelC h G M v a) (hB : bldR v a es) (ok : okAt es k p)
    (hp : ∀ h' v' a', ModelC h' G M v' a' → bldR v' a' (es ++ [(k.toNatClampNeg, p.toNatClampNeg)]) → (∀ j, j ≠ 4 → j ≠ 16 → j ≠ 17 → v' j = v j) → (∀ j, j ≠ 4 → j ≠ 5 → a' j = a j) → mKeep h h' M (M + 17) → post none h') : MC G MX7_comes d 0 0 [.ref M, .int k, .int p] h N post := by
  obtain ⟨hN, h16, h17, hv⟩ := hB
  obtain ⟨ek, ep, ok⟩ := okAt_small hv ok
  have b := vld_bd hv
  have hk2 := ok.1
  refine m_comes hd hM (by rw [hN.1]; exact vp_in_nI (by omega) (by decide)) (fun h' hM' hk => hp h' _ _ hM' ⟨newR_put hN (by omega) ?_ ?_ ?_, ?_, ?_, vld_snoc hv ok⟩ (fun j z4 z16 z17 => ?_) (fun j z4 z5 => ?_) hk)
  · rw [pk_un (by decide), pk_un (by decide), pk_us]
  · rw [← ek]
    rfl
  · rw [← ep]
    rfl
  · rw [pk_un (by decide), pk_us, h16, ahL_snoc, ← nI_stp b.2.1 ok.1 (fun z => ?_), ← ek]
    have := ok.2.2.2.2
    rw [if_neg (by omega)] at this
    omega
  · rw [pk_us, h17, crs_snoc]
    have k1 : (nI k.toNatClampNeg = (1 : Int32)) ↔ k.toNatClampNeg = 1 := nI_eq (b := 1) (by omega) (by omega)
    rw [← ek] at k1
    by_cases c : k = 1
    · rw [if_pos c, if_pos (k1.mp c), nI_1]
    · rw [if_neg c, if_neg (fun z => c (k1.mpr z))]
      exact nI_add _ 0
  · rw [pk_un z17, pk_un z16, pk_un z4]
  · unfold aset
    rw [if_neg z5, if_neg z4]
theorem toL_sum (f : Int32) (i : Nat) (hi : i ≤ 30) : (f.toInt64 + (2 * nI i).toInt64).toInt = f.toInt + 2 * (i : Int) := by
  have h1 := Int32.le_toInt f
  have h2 := Int32.toInt_lt f
  have e : (2 * nI i).toInt = 2 * (i : Int) := by
    simp (disch := omega) only [z_nI, z_lit, z_neg, z_add, z_sub, z_mul, z_lt, z_le, z_eq, z_in, z_cl]
    rw [z_toInt (by omega)]
  rw [Int64.toInt_add, Int32.toInt_toInt64, Int32.toInt_toInt64, e, Int.bmod_eq_of_le (by omega) (by omega)]
set_option maxRecDepth 10000 in
theorem M_draw {k l f n : Int32} (hd : 2 ≤ d) (hI : SInv S) (hR : MR h G M S) (hp : ∀ h', MR h' G M (aDraw k l f n S).2 → mKeep h h' M (M + 17) → post (some (.int (aDraw k l f n S).1)) h') : MC G MX7_draw d 0 0 [.ref M, .int k, .int l, .int f, .int n] h N post := by
  have hR0 := hR
  have hd1 : 1 ≤ d := by omega
  have h8 := hI.1
  obtain ⟨v, a, hM, hL⟩ := hR
  have h0 := hM.1
  have a7 : h (M + 7) = some (.inl (gC G 0, 4, .inl (a 7))) := hM.2 7 (by decide) (by decide)
  refine MC.of (L0 := [some (.ref M), some (.int k), some (.int l), some (.int f), some (.int n), none, none, none, none]) gd_X7_draw (Nat.le_of_ble_eq_true rfl) rfl (MW.run gd_X7_draw [75] 80 ?_)
  simp (disch := omega) only [↓EVi, ↓EVc, ↓ft_X7_draw, ↓reduceIte, ↓EV_obs, ↓EV_obn, ↓EV_ais, ↓EV_ain, ↓EV_ob h0, ↓EV_ai a7, mdF, mRun, List.mem_cons, List.not_mem_nil, or_false, mtab_eq, Nat.reduceEqDiff, Nat.zero_add, hd1, mset2, b10, b00, not_true_eq_false, not_false_eq_true, true_implies, false_implies, implies_true, and_true, true_and, Nat.le_refl, true_or, or_true, eq_self, List.length_cons, List.length_nil, Nat.reduceAdd, Nat.reduceLT, Nat.reduceLeDiff]
  refine m_in32 (lo := 0) (hi := 3) ?_
  unfold aDraw at hp
  by_cases c1 : 0 ≤ k ∧ k ≤ 3
  case neg =>
    rw [if_neg (fun z => c1 z.1)] at hp
    rw [if_neg c1]
    simp (disch := omega) only [↓EVi, ↓EVc, ↓ft_X7_draw, ↓reduceIte, ↓EV_obs, ↓EV_obn, ↓EV_ais, ↓EV_ain, ↓EV_ob h0, ↓EV_ai a7, mdF, mRun, List.mem_cons, List.not_mem_nil, or_false, mtab_eq, Nat.reduceEqDiff, Nat.zero_add, hd1, mset2, b10, b00, not_true_eq_false, not_false_eq_true, true_implies, false_implies, implies_true, and_true, true_and, Nat.le_refl, true_or, or_true, eq_self, List.length_cons, List.length_nil, Nat.reduceAdd, Nat.reduceLT, Nat.reduceLeDiff]
    exact hp h hR0 mKeep_rfl
  rw [if_pos c1]
  simp (disch := omega) only [↓EVi, ↓EVc, ↓ft_X7_draw, ↓reduceIte, ↓EV_obs, ↓EV_obn, ↓EV_ais, ↓EV_ain, ↓EV_ob h0, ↓EV_ai a7, mdF, mRun, List.mem_cons, List.not_mem_nil, or_false, mtab_eq, Nat.reduceEqDiff, Nat.zero_add, hd1, mset2, b10, b00, not_true_eq_false, not_false_eq_true, true_implies, false_implies, implies_true, and_true, true_and, Nat.le_refl, true_or, or_true, eq_self, List.length_cons, List.length_nil, Nat.reduceAdd, Nat.reduceLT, Nat.reduceLeDiff]
  refine m_in32 (lo := 0) (hi := 2) ?_
  by_cases c2 : 0 ≤ l ∧ l ≤ 2
  case neg =>
    rw [if_neg (fun z => c2 z.2.1)] at hp
    rw [if_neg c2]
    simp (disch := omega) only [↓EVi, ↓EVc, ↓ft_X7_draw, ↓reduceIte, ↓EV_obs, ↓EV_obn, ↓EV_ais, ↓EV_ain, ↓EV_ob h0, ↓EV_ai a7, mdF, mRun, List.mem_cons, List.not_mem_nil, or_false, mtab_eq, Nat.reduceEqDiff, Nat.zero_add, hd1, mset2, b10, b00, not_true_eq_false, not_false_eq_true, true_implies, false_implies, implies_true, and_true, true_and, Nat.le_refl, true_or, or_true, eq_self, List.length_cons, List.length_nil, Nat.reduceAdd, Nat.reduceLT, Nat.reduceLeDiff]
    exact hp h hR0 mKeep_rfl
  rw [if_pos c2]
  simp (disch := omega) only [↓EVi, ↓EVc, ↓ft_X7_draw, ↓reduceIte, ↓EV_obs, ↓EV_obn, ↓EV_ais, ↓EV_ain, ↓EV_ob h0, ↓EV_ai a7, mdF, mRun, List.mem_cons, List.not_mem_nil, or_false, mtab_eq, Nat.reduceEqDiff, Nat.zero_add, hd1, mset2, b10, b00, not_true_eq_false, not_false_eq_true, true_implies, false_implies, implies_true, and_true, true_and, Nat.le_refl, true_or, or_true, eq_self, List.length_cons, List.length_nil, Nat.reduceAdd, Nat.reduceLT, Nat.reduceLeDiff]
  refine m_in32 (lo := 1) (hi := 30) ?_
  by_cases c3 : 1 ≤ n ∧ n ≤ 30
  case neg =>
    rw [if_neg (fun z => c3 z.2.2)] at hp
    rw [if_neg c3]
    simp (disch := omega) only [↓EVi, ↓EVc, ↓ft_X7_draw, ↓reduceIte, ↓EV_obs, ↓EV_obn, ↓EV_ais, ↓EV_ain, ↓EV_ob h0, ↓EV_ai a7, mdF, mRun, List.mem_cons, List.not_mem_nil, or_false, mtab_eq, Nat.reduceEqDiff, Nat.zero_add, hd1, mset2, b10, b00, not_true_eq_false, not_false_eq_true, true_implies, false_implies, implies_true, and_true, true_and, Nat.le_refl, true_or, or_true, eq_self, List.length_cons, List.length_nil, Nat.reduceAdd, Nat.reduceLT, Nat.reduceLeDiff]
    exact hp h hR0 mKeep_rfl
  rw [if_pos c3]
  rw [if_pos ⟨c1, c2, c3⟩] at hp
  simp (disch := omega) only [↓EVi, ↓EVc, ↓ft_X7_draw, ↓reduceIte, ↓EV_obs, ↓EV_obn, ↓EV_ais, ↓EV_ain, ↓EV_ob h0, ↓EV_ai a7, mdF, mRun, List.mem_cons, List.not_mem_nil, or_false, mtab_eq, Nat.reduceEqDiff, Nat.zero_add, hd1, mset2, b10, b00, not_true_eq_false, not_false_eq_true, true_implies, false_implies, implies_true, and_true, true_and, Nat.le_refl, true_or, or_true, eq_self, List.length_cons, List.length_nil, Nat.reduceAdd, Nat.reduceLT, Nat.reduceLeDiff]
  obtain ⟨q, hq, rfl⟩ := arg_le k 3 (by decide) c1
  obtain ⟨m, hm, rfl⟩ := arg_le n 30 (by decide) ⟨Int32.le_trans (by decide) c3.1, c3.2⟩
  obtain ⟨r, hr, rfl⟩ := arg_le l 2 (by decide) c2
  have hs := hL.2.2.2.2.2 q (by omega)
  have hsz := (hI.2.2.2.2.2 q (by omega)).2
  have vq : vp_in (nI q) 4 := vp_in_nI (by omega) (by decide)
  rw [nI_clamp (n := q) (by omega), nI_clamp (n := m) (by omega)] at hp
  rw [nI_clamp (n := q) (by omega), hs.1]
  have hr4 : ¬ nI r = -4 := by simp (disch := omega) only [z_nI, z_lit, z_neg, z_add, z_sub, z_mul, z_lt, z_le, z_eq, z_in, z_cl]; omega
  refine ⟨vq, fun c4 => ?_, fun c4 => ⟨vq, fun c5 => ?_, fun c5 => ?_⟩⟩
  · rw [if_neg (by rw [c4]; exact hr4), if_pos c4] at hp
    refine c_begin hM (fun h1 v1 hM1 hB1 hv1 hk1 => ?_)
    simp (disch := omega) only [↓EVi, ↓EVc, ↓ft_X7_draw, ↓reduceIte, ↓EV_obs, ↓EV_obn, ↓EV_ais, ↓EV_ain, ↓EV_ob hM1.1, mdF, mRun, List.mem_cons, List.not_mem_nil, or_false, mtab_eq, Nat.reduceEqDiff, Nat.zero_add, hd1, mset2, b10, b00, not_true_eq_false, not_false_eq_true, true_implies, false_implies, implies_true, and_true, true_and, Nat.le_refl, true_or, or_true, eq_self, List.length_cons, List.length_nil, Nat.reduceAdd, Nat.reduceLT, Nat.reduceLeDiff]
    refine MW.upto m (fun i L h' => ∃ v' a' es x1 x2, L = [some (.ref M), some (.int (nI q)), some (.int (nI r)), some (.int f), some (.int (nI m)), some (.int (nI i)), x1, none, x2] ∧ (x1 = none ∨ ∃ y, x1 = some (.long y)) ∧ ModelC h' G M v' a' ∧ bldR v' a' es ∧ MRel v' a' S ∧ es.length = i ∧ drawL (S.2.2.2 q).2.2 (S.2.2.2 q).2.1 f.toInt m 0 [] = drawL (S.2.2.2 q).2.2 (S.2.2.2 q).2.1 f.toInt (m - i) i es ∧ mKeep h h' M (M + 17)) ?_ ?_ 0 _ _ (Nat.zero_le _) ⟨v1, a, [], none, none, rfl, Or.inl rfl, hM1, hB1, MRel_congr hL (fun k hk => hv1 k (by omega) (by omega) (by omega)) (fun _ _ => rfl), rfl, rfl, hk1⟩
    · rintro i L h' hi ⟨v', a', es, x1, x2, rfl, hx1, hM', hB, hL', hlen, hdr, hk⟩ ih
      have h0 := hM'.1
      have a8 : h' (M + 8) = some (.inl (gC G 0, 4, .inl (a' 8))) := hM'.2 8 (by decide) (by decide)
      have a9 : h' (M + 9) = some (.inl (gC G 0, 248, .inl (a' 9))) := hM'.2 9 (by decide) (by decide)
      refine MW.run1 gd_X7_draw [75] 80 ?_
      simp (disch := omega) only [↓EVi, ↓EVc, ↓ft_X7_draw, ↓reduceIte, ↓EV_obs, ↓EV_obn, ↓EV_ais, ↓EV_ain, ↓EV_ob h0, ↓EV_ai a8, ↓EV_ai a9, mdF, mRun, List.mem_cons, List.not_mem_nil, or_false, mtab_eq, Nat.reduceEqDiff, Nat.zero_add, hd1, mset2, b10, b00, not_true_eq_false, not_false_eq_true, true_implies, false_implies, implies_true, and_true, true_and, Nat.le_refl, true_or, or_true, eq_self, List.length_cons, List.length_nil, Nat.reduceAdd, Nat.reduceLT, Nat.reduceLeDiff]
      have hs' := hL'.2.2.2.2.2 q (by omega)
      refine ⟨fun c => absurd ((nI_leI (by omega) (by omega)).mp c) (by omega), fun _ => ⟨vq, m_in ?_⟩⟩
      rw [nI_clamp (n := q) (by omega), hs'.2.1]
      have eW := toL_sum f i (by omega)
      generalize f.toInt64 + (2 * nI i).toInt64 = W at *
      have e2 : (nI (S.2.2.2 q).2.1 - 2).toInt64.toInt = ((S.2.2.2 q).2.1 : Int) - 2 := by
        rw [Int32.toInt_toInt64]
        simp (disch := omega) only [z_nI, z_lit, z_neg, z_add, z_sub, z_mul, z_lt, z_le, z_eq, z_in, z_cl]
        rw [z_toInt (by omega)]
      have eC : (0 ≤ W ∧ W ≤ (nI (S.2.2.2 q).2.1 - 2).toInt64) ↔ (0 ≤ f.toInt + 2 * (i : Int) ∧ f.toInt + 2 * (i : Int) + 1 < ((S.2.2.2 q).2.1 : Int)) := by
        rw [Int64.le_iff_toInt_le, Int64.le_iff_toInt_le, e2, eW, show (0 : Int64).toInt = 0 from rfl]
        omega
      simp only [eC]
      rw [show m - i = (m - (i + 1)) + 1 by omega] at hdr
      rw [drawL_succ] at hdr
      by_cases cw : 0 ≤ f.toInt + 2 * (i : Int) ∧ f.toInt + 2 * (i : Int) + 1 < ((S.2.2.2 q).2.1 : Int)
      case neg =>
        rw [if_neg cw] at hdr
        rw [if_neg cw]
        rw [hdr] at hp
        simp (disch := omega) only [↓EVi, ↓EVc, ↓ft_X7_draw, ↓reduceIte, ↓EV_obs, ↓EV_obn, ↓EV_ais, ↓EV_ain, ↓EV_ob h0, ↓EV_ai a8, ↓EV_ai a9, mdF, mRun, List.mem_cons, List.not_mem_nil, or_false, mtab_eq, Nat.reduceEqDiff, Nat.zero_add, hd1, mset2, b10, b00, not_true_eq_false, not_false_eq_true, true_implies, false_implies, implies_true, and_true, true_and, Nat.le_refl, true_or, or_true, eq_self, List.length_cons, List.length_nil, Nat.reduceAdd, Nat.reduceLT, Nat.reduceLeDiff]
        exact hp h' ⟨v', a', hM', hL'⟩ hk
      rw [if_pos cw] at hdr
      rw [if_pos cw]
      simp (disch := omega) only [↓EVi, ↓EVc, ↓ft_X7_draw, ↓reduceIte, ↓EV_obs, ↓EV_obn, ↓EV_ais, ↓EV_ain, ↓EV_ob h0, ↓EV_ai a8, ↓EV_ai a9, mdF, mRun, List.mem_cons, List.not_mem_nil, or_false, mtab_eq, Nat.reduceEqDiff, Nat.zero_add, hd1, mset2, b10, b00, not_true_eq_false, not_false_eq_true, true_implies, false_implies, implies_true, and_true, true_and, Nat.le_refl, true_or, or_true, eq_self, List.length_cons, List.length_nil, Nat.reduceAdd, Nat.reduceLT, Nat.reduceLeDiff]
      have eW2 : W.toInt32 = nI (f.toInt + 2 * (i : Int)).toNat := by
        rw [← Int32.toInt_inj, Int64.toInt_toInt32, eW, nI_toInt (by omega), Int.bmod_eq_of_le (by omega) (by omega)]
        omega
      rw [eW2]
      generalize hw : (f.toInt + 2 * (i : Int)).toNat = w at *
      have hw60 : w + 1 < (S.2.2.2 q).2.1 := by omega
      have hc1 : (62 * nI q + nI w).toNatClampNeg = 62 * q + w := by simp (disch := omega) only [z_nI, z_lit, z_neg, z_add, z_sub, z_mul, z_lt, z_le, z_eq, z_in, z_cl]; omega
      have hc2 : (62 * nI q + nI w + 1).toNatClampNeg = 62 * q + (w + 1) := by simp (disch := omega) only [z_nI, z_lit, z_neg, z_add, z_sub, z_mul, z_lt, z_le, z_eq, z_in, z_cl]; omega
      have v1' : vp_in (62 * nI q + nI w) 248 := by simp (disch := omega) only [z_nI, z_lit, z_neg, z_add, z_sub, z_mul, z_lt, z_le, z_eq, z_in, z_cl]; omega
      have v2' : vp_in (62 * nI q + nI w + 1) 248 := by simp (disch := omega) only [z_nI, z_lit, z_neg, z_add, z_sub, z_mul, z_lt, z_le, z_eq, z_in, z_cl]; omega
      refine ⟨v1', m_in32 (lo := 0) (hi := 2) ?_⟩
      rw [hc1, hs'.2.2 w (by omega)]
      generalize hk' : (S.2.2.2 q).2.2 w = kk at *
      generalize hp' : (S.2.2.2 q).2.2 (w + 1) = pp at *
      obtain ⟨hN, h16, h17, hvl⟩ := hB
      have om := okAt_model (k := kk) (p := pp) hvl
      rw [← h16, ← h17, ← hN.1] at om
      have bad : ¬ okAt es kk pp → post (some (.int (-20 - nI i))) h' := by
        intro z
        rw [if_neg z] at hdr
        rw [hdr] at hp
        exact hp h' ⟨v', a', hM', hL'⟩ hk
      by_cases t1 : 0 ≤ kk ∧ kk ≤ 2
      case neg =>
        rw [if_neg t1]
        simp (disch := omega) only [↓EVi, ↓EVc, ↓ft_X7_draw, ↓reduceIte, ↓EV_obs, ↓EV_obn, ↓EV_ais, ↓EV_ain, ↓EV_ob h0, ↓EV_ai a8, ↓EV_ai a9, mdF, mRun, List.mem_cons, List.not_mem_nil, or_false, mtab_eq, Nat.reduceEqDiff, Nat.zero_add, hd1, mset2, b10, b00, not_true_eq_false, not_false_eq_true, true_implies, false_implies, implies_true, and_true, true_and, Nat.le_refl, true_or, or_true, eq_self, List.length_cons, List.length_nil, Nat.reduceAdd, Nat.reduceLT, Nat.reduceLeDiff]
        exact bad (fun z => t1 (om.mp z).1)
      rw [if_pos t1]
      simp (disch := omega) only [↓EVi, ↓EVc, ↓ft_X7_draw, ↓reduceIte, ↓EV_obs, ↓EV_obn, ↓EV_ais, ↓EV_ain, ↓EV_ob h0, ↓EV_ai a8, ↓EV_ai a9, mdF, mRun, List.mem_cons, List.not_mem_nil, or_false, mtab_eq, Nat.reduceEqDiff, Nat.zero_add, hd1, mset2, b10, b00, not_true_eq_false, not_false_eq_true, true_implies, false_implies, implies_true, and_true, true_and, Nat.le_refl, true_or, or_true, eq_self, List.length_cons, List.length_nil, Nat.reduceAdd, Nat.reduceLT, Nat.reduceLeDiff]
      rw [hc1, hs'.2.2 w (by omega), hk']
      refine ⟨v1', m_isTooMuch hM' ?_⟩
      by_cases t2 : v' 4 = 30 ∨ (kk = 1 ∧ v' 17 = 12) ∨ (kk = 0 ∧ 10 < v' 16 + 2)
      case pos =>
        rw [if_pos t2]
        simp (disch := omega) only [↓EVi, ↓EVc, ↓ft_X7_draw, ↓reduceIte, ↓EV_obs, ↓EV_obn, ↓EV_ais, ↓EV_ain, ↓EV_ob h0, ↓EV_ai a8, ↓EV_ai a9, mdF, mRun, List.mem_cons, List.not_mem_nil, or_false, mtab_eq, Nat.reduceEqDiff, Nat.zero_add, hd1, mset2, b10, b00, not_true_eq_false, not_false_eq_true, true_implies, false_implies, implies_true, and_true, true_and, Nat.le_refl, true_or, or_true, eq_self, List.length_cons, List.length_nil, Nat.reduceAdd, Nat.reduceLT, Nat.reduceLeDiff]
        exact bad (fun z => (om.mp z).2.1 t2)
      rw [if_neg t2]
      simp (disch := omega) only [↓EVi, ↓EVc, ↓ft_X7_draw, ↓reduceIte, ↓EV_obs, ↓EV_obn, ↓EV_ais, ↓EV_ain, ↓EV_ob h0, ↓EV_ai a8, ↓EV_ai a9, mdF, mRun, List.mem_cons, List.not_mem_nil, or_false, mtab_eq, Nat.reduceEqDiff, Nat.zero_add, hd1, mset2, b10, b00, not_true_eq_false, not_false_eq_true, true_implies, false_implies, implies_true, and_true, true_and, Nat.le_refl, true_or, or_true, eq_self, List.length_cons, List.length_nil, Nat.reduceAdd, Nat.reduceLT, Nat.reduceLeDiff]
      rw [hc1, hc2, hs'.2.2 w (by omega), hs'.2.2 (w + 1) (by omega), hk', hp']
      refine ⟨v1', v2', m_hasPlace (by omega) hM' ?_⟩
      by_cases t3 : 0 ≤ pp ∧ pp ≤ (if kk = 0 then v' 16 else v' 16 - 2)
      case neg =>
        rw [if_neg t3]
        simp (disch := omega) only [↓EVi, ↓EVc, ↓ft_X7_draw, ↓reduceIte, ↓EV_obs, ↓EV_obn, ↓EV_ais, ↓EV_ain, ↓EV_ob h0, ↓EV_ai a8, ↓EV_ai a9, mdF, mRun, List.mem_cons, List.not_mem_nil, or_false, mtab_eq, Nat.reduceEqDiff, Nat.zero_add, hd1, mset2, b10, b00, not_true_eq_false, not_false_eq_true, true_implies, false_implies, implies_true, and_true, true_and, Nat.le_refl, true_or, or_true, eq_self, List.length_cons, List.length_nil, Nat.reduceAdd, Nat.reduceLT, Nat.reduceLeDiff]
        exact bad (fun z => t3 (om.mp z).2.2)
      rw [if_pos t3]
      simp (disch := omega) only [↓EVi, ↓EVc, ↓ft_X7_draw, ↓reduceIte, ↓EV_obs, ↓EV_obn, ↓EV_ais, ↓EV_ain, ↓EV_ob h0, ↓EV_ai a8, ↓EV_ai a9, mdF, mRun, List.mem_cons, List.not_mem_nil, or_false, mtab_eq, Nat.reduceEqDiff, Nat.zero_add, hd1, mset2, b10, b00, not_true_eq_false, not_false_eq_true, true_implies, false_implies, implies_true, and_true, true_and, Nat.le_refl, true_or, or_true, eq_self, List.length_cons, List.length_nil, Nat.reduceAdd, Nat.reduceLT, Nat.reduceLeDiff]
      have ok := om.mpr ⟨t1, t2, t3⟩
      rw [if_pos ok] at hdr
      rw [hc1, hc2, hs'.2.2 w (by omega), hs'.2.2 (w + 1) (by omega), hk', hp']
      refine ⟨v1', v2', c_comes (by omega) hM' ⟨hN, h16, h17, hvl⟩ ok (fun h2 v2 a2 hM2 hB2 hv2 ha2 hk2 => ?_)⟩
      simp (disch := omega) only [↓EVi, ↓EVc, ↓ft_X7_draw, ↓reduceIte, ↓EV_obs, ↓EV_obn, ↓EV_ais, ↓EV_ain, ↓EV_ob hM2.1, mdF, mRun, List.mem_cons, List.not_mem_nil, or_false, mtab_eq, Nat.reduceEqDiff, Nat.zero_add, hd1, mset2, b10, b00, not_true_eq_false, not_false_eq_true, true_implies, false_implies, implies_true, and_true, true_and, Nat.le_refl, true_or, or_true, eq_self, List.length_cons, List.length_nil, Nat.reduceAdd, Nat.reduceLT, Nat.reduceLeDiff]
      rw [nI_1]
      exact ih _ _ ⟨v2, a2, _, _, _, rfl, Or.inr ⟨_, rfl⟩, hM2, hB2, MRel_congr hL' (fun k hk => hv2 k (by omega) (by omega) (by omega)) (fun k hk => ha2 k (by omega) (by omega)), by simp [hlen], hdr, mKeep_trans hk hk2⟩
    · rintro L h' ⟨v', a', es, x1, x2, rfl, hx1, hM', hB, hL', hlen, hdr, hk⟩
      have h0 := hM'.1
      refine MW.run1 gd_X7_draw [75] 80 ?_
      simp (disch := omega) only [↓EVi, ↓EVc, ↓ft_X7_draw, ↓reduceIte, ↓EV_obs, ↓EV_obn, ↓EV_ais, ↓EV_ain, ↓EV_ob h0, mdF, mRun, List.mem_cons, List.not_mem_nil, or_false, mtab_eq, Nat.reduceEqDiff, Nat.zero_add, hd1, mset2, b10, b00, not_true_eq_false, not_false_eq_true, true_implies, false_implies, implies_true, and_true, true_and, Nat.le_refl, true_or, or_true, eq_self, List.length_cons, List.length_nil, Nat.reduceAdd, Nat.reduceLT, Nat.reduceLeDiff]
      rw [Nat.sub_self, drawL_zero] at hdr
      rw [hdr] at hp
      obtain ⟨hN, h16, h17, hvl⟩ := hB
      have b := vld_bd hvl
      have e16 : (v' 16 ≤ 0) ↔ ¬ 0 < ahL es := by
        rw [h16]
        simp (disch := omega) only [z_nI, z_lit, z_neg, z_add, z_sub, z_mul, z_lt, z_le, z_eq, z_in, z_cl]
        omega
      have e8 : (v' 0 = 8) ↔ S.1.length = 8 := by rw [hL'.1]; exact nI_eq (b := 8) (by omega) (by omega)
      refine ⟨fun _ => ⟨fun c16 => ⟨fun c8 => ?_, fun c8 => ?_⟩, fun c16 => ?_⟩, fun c => absurd ((nI_leI (by omega) (by omega)).mpr (Nat.le_refl _)) c⟩
      · have c16' := e16.mp c16
        have c8' : ¬ S.1.length = 8 := fun z => c8 (e8.mpr z)
        simp only [if_neg c16', if_neg c8'] at hp
        refine M_added (by omega) hI hM' hL' hN b.1 (by omega) (fun h2 hR2 hk2 => ?_)
        simp (disch := omega) only [↓EVi, ↓EVc, ↓ft_X7_draw, ↓reduceIte, ↓EV_obs, ↓EV_obn, ↓EV_ais, ↓EV_ain, mdF, mRun, List.mem_cons, List.not_mem_nil, or_false, mtab_eq, Nat.reduceEqDiff, Nat.zero_add, hd1, mset2, b10, b00, not_true_eq_false, not_false_eq_true, true_implies, false_implies, implies_true, and_true, true_and, Nat.le_refl, true_or, or_true, eq_self, List.length_cons, List.length_nil, Nat.reduceAdd, Nat.reduceLT, Nat.reduceLeDiff]
        exact hp h2 hR2 (mKeep_trans hk hk2)
      · have c16' := e16.mp c16
        simp only [if_neg c16', if_pos (e8.mp (Classical.not_not.mp c8))] at hp
        exact hp h' ⟨v', a', hM', hL'⟩ hk
      · have c16' : 0 < ahL es := Classical.not_not.mp (fun z => c16 (e16.mpr z))
        simp only [if_pos c16'] at hp
        exact hp h' ⟨v', a', hM', hL'⟩ hk
  · rw [if_neg c5, if_neg c4] at hp
    exact hp h hR0 mKeep_rfl
  · rw [if_pos (Classical.not_not.mp c5)] at hp
    exact hp h hR0 mKeep_rfl
end MCS
