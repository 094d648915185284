/-! the model: feed, sheet, lay -/
def fB (v : Int64) (j : Nat) : Nat := ((v >>> ((zI (56 - 8 * (j : Int))).toInt64 &&& 63)).toInt32 &&& 255).toNatClampNeg
theorem fB_eq (v : Int64) (j : Nat) : (v >>> ((zI (56 - 8 * (j : Int))).toInt64 &&& 63)).toInt32 &&& 255 = nI (fB v j) ∧ fB v j < 256 := by
  obtain ⟨q, hq, e⟩ := pk_andE ((v >>> ((zI (56 - 8 * (j : Int))).toInt64 &&& 63)).toInt32) (m := 255) 8 (by decide)
  have hq' : q < 256 := hq
  unfold fB
  rw [e, nI_clamp (by omega)]
  exact ⟨rfl, hq'⟩
def fBs (v : Int64) (n : Nat) : List Nat := (List.range n).map (fB v)
theorem fBs_succ (v : Int64) (n : Nat) : fBs v (n + 1) = fBs v n ++ [fB v n] := by
  unfold fBs
  rw [List.range_succ, List.map_append]
  rfl
def aFeed (v : Int64) (S : AS) : Int32 × AS := if 112 < S.2.1.length then (-3, S) else (nI (S.2.1.length + 8), (S.1, S.2.1 ++ fBs v 8, S.2.2))
def aSheet (k l n : Int32) (S : AS) : Int32 × AS := if (0 ≤ k ∧ k ≤ 3) ∧ (0 ≤ l ∧ l ≤ 2) ∧ n ≤ 62 then (if n < 0 then (-14, S) else (1, (S.1, S.2.1, S.2.2.1, fun j => if j = k.toNatClampNeg then (l, n.toNatClampNeg, fun _ => 0) else S.2.2.2 j))) else (-1, S)
def nar (l v : Int32) : Int32 := if l = 0 then (v <<< (24 &&& 31)) >>> (24 &&& 31) else if l = 1 then (v <<< (16 &&& 31)) >>> (16 &&& 31) else v
def aLay (k i x : Int32) (S : AS) : Int32 × AS := if 0 ≤ k ∧ k ≤ 3 then (if (S.2.2.2 k.toNatClampNeg).1 = -4 then (-11, S) else if 0 ≤ i ∧ i < nI (S.2.2.2 k.toNatClampNeg).2.1 then (1, (S.1, S.2.1, S.2.2.1, fun j => if j = k.toNatClampNeg then ((S.2.2.2 k.toNatClampNeg).1, (S.2.2.2 k.toNatClampNeg).2.1, upd (S.2.2.2 k.toNatClampNeg).2.2 i.toNatClampNeg (nar (S.2.2.2 k.toNatClampNeg).1 x)) else S.2.2.2 j)) else (-12, S)) else (-1, S)
theorem MRel_tape {v : Nat → Int32} {a : Nat → Nat → Int32} {S : AS} {b : Nat} (h : MRel v a S) : MRel (upd v 8 (nI (S.2.1.length + 1))) (aset a 6 (upd (a 6) S.2.1.length (nI b))) (S.1, S.2.1 ++ [b], S.2.2) := by
  refine ⟨by rw [pk_un (by decide)]; exact h.1, fun f hf => slotR_congr rfl rfl rfl (h.2.1 f hf), by rw [pk_us]; simp, fun i hi => ?_, by rw [pk_un (by decide)]; exact h.2.2.2.2.1, h.2.2.2.2.2⟩
  show upd (a 6) S.2.1.length (nI b) i = nI ((S.2.1 ++ [b]).getD i 0)
  have hi' : i < S.2.1.length + 1 := by simpa using hi
  by_cases c : i = S.2.1.length
  · subst c
    rw [pk_us, getD_app_e]
  · rw [pk_un c, getD_app_l (by omega)]
    exact h.2.2.2.1 i (by omega)
theorem arg_le (x : Int32) (n : Nat) (hn : n < 2 ^ 31 - 1) : (0 ≤ x ∧ x ≤ nI n) → ∃ q, q ≤ n ∧ x = nI q := by
  rintro ⟨h1, h2⟩
  obtain ⟨q, hq, rfl⟩ := nI_of (x := x) (by rw [Int32.not_lt]; exact h1)
  exact ⟨q, (nI_leI hq (by omega)).mp h2, rfl⟩
section MCS
variable {G : mG} {d N M : Nat} {S : AS} {h : mH} {post : Option Value → mH → Prop}
set_option maxRecDepth 10000 in
theorem M_feed {x : Int64} (hI : SInv S) (hR : MR h G M S) (hp : ∀ h', MR h' G M (aFeed x S).2 → mKeep h h' M (M + 17) → post (some (.int (aFeed x S).1)) h') : MC G MX7_feed d 0 0 [.ref M, .long x] h N post := by
  have hR0 := hR
  have h120 := hI.2.2.1
  obtain ⟨v, a, hM, hL⟩ := hR
  have h0 := hM.1
  refine MC.of (L0 := [some (.ref M), some (.long x), none, none]) gd_X7_feed (Nat.le_of_ble_eq_true rfl) rfl (MW.run gd_X7_feed [18] 20 ?_)
  simp (disch := omega) only [↓EVi, ↓EVc, ↓ft_X7_feed, ↓reduceIte, ↓EV_obs, ↓EV_obn, ↓EV_ais, ↓EV_ain, ↓EV_ob h0, mdF, mRun, List.mem_cons, List.not_mem_nil, or_false, mtab_eq, Nat.reduceEqDiff, Nat.zero_add, mset2, b10, b00, not_true_eq_false, not_false_eq_true, true_implies, false_implies, implies_true, and_true, true_and, Nat.le_refl, true_or, or_true, eq_self, List.length_cons, List.length_nil, Nat.reduceAdd, Nat.reduceLT, Nat.reduceLeDiff]
  unfold aFeed at hp
  have e1 : (v 8 + 8 ≤ 120) ↔ ¬ 112 < S.2.1.length := by
    rw [hL.2.2.1]
    simp (disch := omega) only [z_nI, z_lit, z_neg, z_add, z_sub, z_mul, z_lt, z_le, z_eq, z_in, z_cl]
    omega
  refine ⟨fun c => ?_, fun c => ?_⟩
  · have c' := e1.mp c
    rw [if_neg c'] at hp
    refine MW.upto 8 (fun i L h' => ∃ v' a', L = [some (.ref M), some (.long x), none, some (.int (zI (56 - 8 * (i : Int))))] ∧ ModelC h' G M v' a' ∧ MRel v' a' (S.1, S.2.1 ++ fBs x i, S.2.2) ∧ mKeep h h' M (M + 17)) ?_ ?_ 0 _ _ (Nat.zero_le _) ⟨v, a, rfl, hM, ?_, mKeep_rfl⟩
    · rintro i L h' hi ⟨v', a', rfl, hM', hL', hk⟩ ih
      have h0 := hM'.1
      have a6 : h' (M + 6) = some (.inl (gC G 0, 120, .inl (a' 6))) := hM'.2 6 (by decide) (by decide)
      refine MW.run1 gd_X7_feed [18] 60 ?_
      simp (disch := omega) only [↓EVi, ↓EVc, ↓ft_X7_feed, ↓reduceIte, ↓EV_obs, ↓EV_obn, ↓EV_ais, ↓EV_ain, ↓EV_ob h0, ↓EV_ai a6, mdF, mRun, List.mem_cons, List.not_mem_nil, or_false, mtab_eq, Nat.reduceEqDiff, Nat.zero_add, mset2, b10, b00, not_true_eq_false, not_false_eq_true, true_implies, false_implies, implies_true, and_true, true_and, Nat.le_refl, true_or, or_true, eq_self, List.length_cons, List.length_nil, Nat.reduceAdd, Nat.reduceLT, Nat.reduceLeDiff]
      have hlen : (S.2.1 ++ fBs x i).length = S.2.1.length + i := by unfold fBs; simp
      have e8 : v' 8 = nI (S.2.1.length + i) := by
        rw [hL'.2.2.1]
        show nI (S.2.1 ++ fBs x i).length = _
        rw [hlen]
      have hv : vp_in (v' 8) 120 := by rw [e8]; exact vp_in_nI (by omega) (by decide)
      have hc : (v' 8).toNatClampNeg = S.2.1.length + i := by rw [e8]; exact nI_clamp (by omega)
      refine ⟨fun z => absurd z (by simp (disch := omega) only [z_nI, z_lit, z_neg, z_add, z_sub, z_mul, z_lt, z_le, z_eq, z_in, z_cl]; omega), fun _ => ⟨hv, ?_⟩⟩
      rw [hc, (fB_eq x i).1, e8, nI_1, show zI (56 - 8 * (i : Int)) + -8 = zI (56 - 8 * ((i + 1 : Nat) : Int)) by simp (disch := omega) only [z_nI, z_lit, z_neg, z_add, z_sub, z_mul, z_lt, z_le, z_eq, z_in, z_cl]; congr 1; omega]
      have hL2 := MRel_tape (b := fB x i) hL'
      have hl2 : (S.1, S.2.1 ++ fBs x i, S.2.2).2.1.length = S.2.1.length + i := hlen
      rw [hl2] at hL2
      refine ih _ _ ⟨_, _, rfl, ModelC_v (v' := upd v' 8 (nI (S.2.1.length + i + 1))) (ModelC_a (k := 6) hM' (by decide) (by decide)), ?_, fun q hq => ?_⟩
      · rw [fBs_succ, ← List.append_assoc]
        exact hL2
      · simp (disch := omega) only [mset_ne]
        exact hk q hq
    · rintro L h' ⟨v', a', rfl, hM', hL', hk⟩
      have h0 := hM'.1
      refine MW.run1 gd_X7_feed [18] 60 ?_
      simp (disch := omega) only [↓EVi, ↓EVc, ↓ft_X7_feed, ↓reduceIte, ↓EV_obs, ↓EV_obn, ↓EV_ais, ↓EV_ain, ↓EV_ob h0, mdF, mRun, List.mem_cons, List.not_mem_nil, or_false, mtab_eq, Nat.reduceEqDiff, Nat.zero_add, mset2, b10, b00, not_true_eq_false, not_false_eq_true, true_implies, false_implies, implies_true, and_true, true_and, Nat.le_refl, true_or, or_true, eq_self, List.length_cons, List.length_nil, Nat.reduceAdd, Nat.reduceLT, Nat.reduceLeDiff]
      have hlen : (S.2.1 ++ fBs x 8).length = S.2.1.length + 8 := by unfold fBs; simp
      have e8 : v' 8 = nI (S.2.1.length + 8) := by
        rw [hL'.2.2.1]
        show nI (S.2.1 ++ fBs x 8).length = _
        rw [hlen]
      rw [e8]
      exact ⟨fun _ => hp h' ⟨v', a', hM', hL'⟩ hk, fun z => absurd (by decide) z⟩
    · unfold fBs
      simp only [List.range_zero, List.map_nil, List.append_nil]
      exact hL
  · rw [if_pos (Classical.not_not.mp (fun z => c (e1.mpr z)))] at hp
    exact hp h hR0 mKeep_rfl
set_option maxRecDepth 10000 in
theorem M_sheet {k l n : Int32} (hd : 1 ≤ d) (hI : SInv S) (hR : MR h G M S) (hp : ∀ h', MR h' G M (aSheet k l n S).2 → mKeep h h' M (M + 17) → post (some (.int (aSheet k l n S).1)) h') : MC G MX7_sheet d 0 0 [.ref M, .int k, .int l, .int n] h N post := by
  have hR0 := hR
  obtain ⟨v, a, hM, hL⟩ := hR
  have h0 := hM.1
  have a7 : h (M + 7) = some (.inl (gC G 0, 4, .inl (a 7))) := hM.2 7 (by decide) (by decide)
  have a8 : h (M + 8) = some (.inl (gC G 0, 4, .inl (a 8))) := hM.2 8 (by decide) (by decide)
  refine MC.of (L0 := [some (.ref M), some (.int k), some (.int l), some (.int n), none]) gd_X7_sheet (Nat.le_of_ble_eq_true rfl) rfl (MW.run gd_X7_sheet [56] 60 ?_)
  simp (disch := omega) only [↓EVi, ↓EVc, ↓ft_X7_sheet, ↓reduceIte, ↓EV_obs, ↓EV_obn, ↓EV_ais, ↓EV_ain, ↓EV_ob h0, ↓EV_ai a7, ↓EV_ai a8, mdF, mRun, List.mem_cons, List.not_mem_nil, or_false, mtab_eq, Nat.reduceEqDiff, Nat.zero_add, hd, mset2, b10, b00, not_true_eq_false, not_false_eq_true, true_implies, false_implies, implies_true, and_true, true_and, Nat.le_refl, true_or, or_true, eq_self, List.length_cons, List.length_nil, Nat.reduceAdd, Nat.reduceLT, Nat.reduceLeDiff]
  refine m_in32 (lo := 0) (hi := 3) ?_
  unfold aSheet at hp
  by_cases c1 : 0 ≤ k ∧ k ≤ 3
  case neg =>
    rw [if_neg (fun z => c1 z.1)] at hp
    rw [if_neg c1]
    simp (disch := omega) only [↓EVi, ↓EVc, ↓ft_X7_sheet, ↓reduceIte, ↓EV_obs, ↓EV_obn, ↓EV_ais, ↓EV_ain, ↓EV_ob h0, ↓EV_ai a7, ↓EV_ai a8, mdF, mRun, List.mem_cons, List.not_mem_nil, or_false, mtab_eq, Nat.reduceEqDiff, Nat.zero_add, hd, mset2, b10, b00, not_true_eq_false, not_false_eq_true, true_implies, false_implies, implies_true, and_true, true_and, Nat.le_refl, true_or, or_true, eq_self, List.length_cons, List.length_nil, Nat.reduceAdd, Nat.reduceLT, Nat.reduceLeDiff]
    exact hp h hR0 mKeep_rfl
  rw [if_pos c1]
  simp (disch := omega) only [↓EVi, ↓EVc, ↓ft_X7_sheet, ↓reduceIte, ↓EV_obs, ↓EV_obn, ↓EV_ais, ↓EV_ain, ↓EV_ob h0, ↓EV_ai a7, ↓EV_ai a8, mdF, mRun, List.mem_cons, List.not_mem_nil, or_false, mtab_eq, Nat.reduceEqDiff, Nat.zero_add, hd, mset2, b10, b00, not_true_eq_false, not_false_eq_true, true_implies, false_implies, implies_true, and_true, true_and, Nat.le_refl, true_or, or_true, eq_self, List.length_cons, List.length_nil, Nat.reduceAdd, Nat.reduceLT, Nat.reduceLeDiff]
  refine m_in32 (lo := 0) (hi := 2) ?_
  by_cases c2 : 0 ≤ l ∧ l ≤ 2
  case neg =>
    rw [if_neg (fun z => c2 z.2.1)] at hp
    rw [if_neg c2]
    simp (disch := omega) only [↓EVi, ↓EVc, ↓ft_X7_sheet, ↓reduceIte, ↓EV_obs, ↓EV_obn, ↓EV_ais, ↓EV_ain, ↓EV_ob h0, ↓EV_ai a7, ↓EV_ai a8, mdF, mRun, List.mem_cons, List.not_mem_nil, or_false, mtab_eq, Nat.reduceEqDiff, Nat.zero_add, hd, mset2, b10, b00, not_true_eq_false, not_false_eq_true, true_implies, false_implies, implies_true, and_true, true_and, Nat.le_refl, true_or, or_true, eq_self, List.length_cons, List.length_nil, Nat.reduceAdd, Nat.reduceLT, Nat.reduceLeDiff]
    exact hp h hR0 mKeep_rfl
  rw [if_pos c2]
  simp (disch := omega) only [↓EVi, ↓EVc, ↓ft_X7_sheet, ↓reduceIte, ↓EV_obs, ↓EV_obn, ↓EV_ais, ↓EV_ain, ↓EV_ob h0, ↓EV_ai a7, ↓EV_ai a8, mdF, mRun, List.mem_cons, List.not_mem_nil, or_false, mtab_eq, Nat.reduceEqDiff, Nat.zero_add, hd, mset2, b10, b00, not_true_eq_false, not_false_eq_true, true_implies, false_implies, implies_true, and_true, true_and, Nat.le_refl, true_or, or_true, eq_self, List.length_cons, List.length_nil, Nat.reduceAdd, Nat.reduceLT, Nat.reduceLeDiff]
  obtain ⟨q, hq, rfl⟩ := arg_le k 3 (by decide) c1
  refine ⟨fun c3 => ⟨fun c4 => ⟨vp_in_nI (by omega) (by decide), vp_in_nI (by omega) (by decide), ?_⟩, fun c4 => ?_⟩, fun c3 => ?_⟩
  · have c4' : ¬ n < 0 := by rw [Int32.not_lt]; exact c4
    rw [if_pos ⟨c1, c2, c3⟩, if_neg c4', nI_clamp (n := q) (by omega)] at hp
    obtain ⟨r, hr, rfl⟩ := nI_of c4'
    rw [nI_clamp hr] at hp
    rw [nI_clamp (n := q) (by omega)]
    refine MW.upto 62 (fun i L h' => ∃ a', L = [some (.ref M), some (.int (nI q)), some (.int l), some (.int (nI r)), some (.int (nI i))] ∧ ModelC h' G M v a' ∧ a' 7 = upd (a 7) q l ∧ a' 8 = upd (a 8) q (nI r) ∧ (∀ j, j ≤ 6 ∨ 10 ≤ j → a' j = a j) ∧ (∀ j, j < 62 * q ∨ 62 * q + i ≤ j → a' 9 j = a 9 j) ∧ (∀ j, j < i → a' 9 (62 * q + j) = 0) ∧ mKeep h h' M (M + 17)) ?_ ?_ 0 _ _ (Nat.zero_le _) ⟨_, rfl, ModelC_a (k := 8) (ModelC_a (k := 7) hM (by decide) (by decide)) (by decide) (by decide), rfl, rfl, fun j hj => ?_, fun j _ => rfl, fun j hj => absurd hj (Nat.not_lt_zero j), fun z hz => ?_⟩
    · rintro i L h' hi ⟨a', rfl, hM', e7, e8, eo, e9, ei, hk⟩ ih
      have h0 := hM'.1
      have a9 : h' (M + 9) = some (.inl (gC G 0, 248, .inl (a' 9))) := hM'.2 9 (by decide) (by decide)
      refine MW.run1 gd_X7_sheet [56] 40 ?_
      simp (disch := omega) only [↓EVi, ↓EVc, ↓ft_X7_sheet, ↓reduceIte, ↓EV_obs, ↓EV_obn, ↓EV_ais, ↓EV_ain, ↓EV_ob h0, ↓EV_ai a9, mdF, mRun, List.mem_cons, List.not_mem_nil, or_false, mtab_eq, Nat.reduceEqDiff, Nat.zero_add, hd, mset2, b10, b00, not_true_eq_false, not_false_eq_true, true_implies, false_implies, implies_true, and_true, true_and, Nat.le_refl, true_or, or_true, eq_self, List.length_cons, List.length_nil, Nat.reduceAdd, Nat.reduceLT, Nat.reduceLeDiff]
      have hc : (62 * nI q + nI i).toNatClampNeg = 62 * q + i := by simp (disch := omega) only [z_nI, z_lit, z_neg, z_add, z_sub, z_mul, z_lt, z_le, z_eq, z_in, z_cl]; omega
      rw [hc, nI_1]
      refine ⟨fun z => absurd z (by simp (disch := omega) only [z_nI, z_lit, z_neg, z_add, z_sub, z_mul, z_lt, z_le, z_eq, z_in, z_cl]; omega), fun _ => ⟨by simp (disch := omega) only [z_nI, z_lit, z_neg, z_add, z_sub, z_mul, z_lt, z_le, z_eq, z_in, z_cl]; omega, ih _ _ ⟨_, rfl, ModelC_a (k := 9) hM' (by decide) (by decide), e7, e8, fun j hj => ?_, fun j hj => ?_, fun j hj => ?_, fun z hz => ?_⟩⟩⟩
      · unfold aset
        rw [if_neg (by omega)]
        exact eo j hj
      · show upd (a' 9) (62 * q + i) 0 j = _
        rw [pk_un (by omega)]
        exact e9 j (by omega)
      · show upd (a' 9) (62 * q + i) 0 (62 * q + j) = _
        by_cases e : j = i
        · subst e
          exact pk_us
        · rw [pk_un (by omega)]
          exact ei j (by omega)
      · simp (disch := omega) only [mset_ne]
        exact hk z hz
    · rintro L h' ⟨a', rfl, hM', e7, e8, eo, e9, ei, hk⟩
      refine MW.run1 gd_X7_sheet [56] 40 ?_
      simp (disch := omega) only [↓EVi, ↓EVc, ↓ft_X7_sheet, ↓reduceIte, ↓EV_obs, ↓EV_obn, ↓EV_ais, ↓EV_ain, mdF, mRun, List.mem_cons, List.not_mem_nil, or_false, mtab_eq, Nat.reduceEqDiff, Nat.zero_add, hd, mset2, b10, b00, not_true_eq_false, not_false_eq_true, true_implies, false_implies, implies_true, and_true, true_and, Nat.le_refl, true_or, or_true, eq_self, List.length_cons, List.length_nil, Nat.reduceAdd, Nat.reduceLT, Nat.reduceLeDiff]
      refine ⟨fun _ => hp h' ⟨v, a', hM', hL.1, fun f hf => slotR_congr (eo 1 (by omega)) (eo 2 (by omega)) (eo 3 (by omega)) (hL.2.1 f hf), hL.2.2.1, fun i hi => by rw [eo 6 (by omega)]; exact hL.2.2.2.1 i hi, hL.2.2.2.2.1, fun j hj => ?_⟩ hk, fun z => absurd (by decide) z⟩
      show a' 7 j = (if j = q then (l, r, fun _ => 0) else S.2.2.2 j : Sh).1 ∧ a' 8 j = nI (if j = q then (l, r, fun _ => 0) else S.2.2.2 j : Sh).2.1 ∧ ∀ i, i < 62 → a' 9 (62 * j + i) = (if j = q then (l, r, fun _ => 0) else S.2.2.2 j : Sh).2.2 i
      by_cases e : j = q
      · subst e
        rw [if_pos rfl, e7, e8, pk_us, pk_us]
        exact ⟨rfl, rfl, fun i hi => ei i hi⟩
      · rw [if_neg e, e7, e8, pk_un e, pk_un e]
        refine ⟨(hL.2.2.2.2.2 j hj).1, (hL.2.2.2.2.2 j hj).2.1, fun i hi => ?_⟩
        rw [e9 _ (by omega)]
        exact (hL.2.2.2.2.2 j hj).2.2 i hi
    · unfold aset
      rw [if_neg (by omega), if_neg (by omega)]
    · simp (disch := omega) only [mset_ne]
  · have c4' : n < 0 := by rw [← Int32.not_le]; exact c4
    rw [if_pos ⟨c1, c2, c3⟩, if_pos c4'] at hp
    exact hp h hR0 mKeep_rfl
  · rw [if_neg (fun z => c3 z.2.2)] at hp
    exact hp h hR0 mKeep_rfl
set_option maxRecDepth 10000 in
theorem M_lay {k i x : Int32} (hd : 1 ≤ d) (hI : SInv S) (hR : MR h G M S) (hp : ∀ h', MR h' G M (aLay k i x S).2 → mKeep h h' M (M + 17) → post (some (.int (aLay k i x S).1)) h') : MC G MX7_lay d 0 0 [.ref M, .int k, .int i, .int x] h N post := by
  have hR0 := hR
  obtain ⟨v, a, hM, hL⟩ := hR
  have h0 := hM.1
  have a7 : h (M + 7) = some (.inl (gC G 0, 4, .inl (a 7))) := hM.2 7 (by decide) (by decide)
  have a8 : h (M + 8) = some (.inl (gC G 0, 4, .inl (a 8))) := hM.2 8 (by decide) (by decide)
  have a9 : h (M + 9) = some (.inl (gC G 0, 248, .inl (a 9))) := hM.2 9 (by decide) (by decide)
  refine MC.of (L0 := [some (.ref M), some (.int k), some (.int i), some (.int x)]) gd_X7_lay (Nat.le_of_ble_eq_true rfl) rfl (MW.run gd_X7_lay [] 80 ?_)
  simp (disch := omega) only [↓EVi, ↓EVc, ↓ft_X7_lay, ↓reduceIte, ↓EV_obs, ↓EV_obn, ↓EV_ais, ↓EV_ain, ↓EV_ob h0, ↓EV_ai a7, ↓EV_ai a8, ↓EV_ai a9, mdF, mRun, List.mem_cons, List.not_mem_nil, or_false, mtab_eq, Nat.reduceEqDiff, Nat.zero_add, hd, mset2, b10, b00, not_true_eq_false, not_false_eq_true, true_implies, false_implies, implies_true, and_true, true_and, Nat.le_refl, true_or, or_true, eq_self, List.length_cons, List.length_nil, Nat.reduceAdd, Nat.reduceLT, Nat.reduceLeDiff]
  refine m_in32 (lo := 0) (hi := 3) ?_
  unfold aLay at hp
  by_cases c1 : 0 ≤ k ∧ k ≤ 3
  case neg =>
    rw [if_neg c1] at hp
    rw [if_neg c1]
    simp (disch := omega) only [↓EVi, ↓EVc, ↓ft_X7_lay, ↓reduceIte, ↓EV_obs, ↓EV_obn, ↓EV_ais, ↓EV_ain, ↓EV_ob h0, ↓EV_ai a7, ↓EV_ai a8, ↓EV_ai a9, mdF, mRun, List.mem_cons, List.not_mem_nil, or_false, mtab_eq, Nat.reduceEqDiff, Nat.zero_add, hd, mset2, b10, b00, not_true_eq_false, not_false_eq_true, true_implies, false_implies, implies_true, and_true, true_and, Nat.le_refl, true_or, or_true, eq_self, List.length_cons, List.length_nil, Nat.reduceAdd, Nat.reduceLT, Nat.reduceLeDiff]
    exact hp h hR0 mKeep_rfl
  rw [if_pos c1] at hp
  rw [if_pos c1]
  simp (disch := omega) only [↓EVi, ↓EVc, ↓ft_X7_lay, ↓reduceIte, ↓EV_obs, ↓EV_obn, ↓EV_ais, ↓EV_ain, ↓EV_ob h0, ↓EV_ai a7, ↓EV_ai a8, ↓EV_ai a9, mdF, mRun, List.mem_cons, List.not_mem_nil, or_false, mtab_eq, Nat.reduceEqDiff, Nat.zero_add, hd, mset2, b10, b00, not_true_eq_false, not_false_eq_true, true_implies, false_implies, implies_true, and_true, true_and, Nat.le_refl, true_or, or_true, eq_self, List.length_cons, List.length_nil, Nat.reduceAdd, Nat.reduceLT, Nat.reduceLeDiff]
  obtain ⟨q, hq, rfl⟩ := arg_le k 3 (by decide) c1
  have hs := hL.2.2.2.2.2 q (by omega)
  have hsz := (hI.2.2.2.2.2 q (by omega)).2
  have vq : vp_in (nI q) 4 := vp_in_nI (by omega) (by decide)
  rw [nI_clamp (n := q) (by omega)] at hp
  rw [nI_clamp (n := q) (by omega), hs.1, hs.2.1]
  refine ⟨vq, fun c2 => ?_, fun c2 => ?_⟩
  · rw [if_neg c2] at hp
    refine ⟨vq, ?_⟩
    refine m_in32 (lo := 0) ?_
    simp (disch := omega) only [le_pred]
    by_cases c3 : 0 ≤ i ∧ i < nI (S.2.2.2 q).2.1
    · rw [if_pos c3] at hp
      rw [if_pos c3]
      obtain ⟨j, hj, rfl⟩ := (arg_ix i (n := (S.2.2.2 q).2.1) (by omega)).resolve_left (fun z => z c3)
      simp (disch := omega) only [↓EVi, ↓EVc, ↓ft_X7_lay, ↓reduceIte, ↓EV_obs, ↓EV_obn, ↓EV_ais, ↓EV_ain, ↓EV_ob h0, ↓EV_ai a7, ↓EV_ai a8, ↓EV_ai a9, mdF, mRun, List.mem_cons, List.not_mem_nil, or_false, mtab_eq, Nat.reduceEqDiff, Nat.zero_add, hd, mset2, b10, b00, not_true_eq_false, not_false_eq_true, true_implies, false_implies, implies_true, and_true, true_and, Nat.le_refl, true_or, or_true, eq_self, List.length_cons, List.length_nil, Nat.reduceAdd, Nat.reduceLT, Nat.reduceLeDiff]
      have hc : (62 * nI q + nI j).toNatClampNeg = 62 * q + j := by simp (disch := omega) only [z_nI, z_lit, z_neg, z_add, z_sub, z_mul, z_lt, z_le, z_eq, z_in, z_cl]; omega
      have vi : vp_in (62 * nI q + nI j) 248 := by simp (disch := omega) only [z_nI, z_lit, z_neg, z_add, z_sub, z_mul, z_lt, z_le, z_eq, z_in, z_cl]; omega
      rw [nI_clamp (n := q) (by omega), hc, hs.1]
      have fin : ∀ y, y = nar (S.2.2.2 q).1 x → post (some (.int 1)) (mset h (M + 9) (.inl (gC G 0, 248, .inl (upd (a 9) (62 * q + j) y)))) := by
        intro y hy
        subst hy
        refine hp _ ⟨v, _, ModelC_a (k := 9) hM (by decide) (by decide), hL.1, fun f hf => slotR_congr rfl rfl rfl (hL.2.1 f hf), hL.2.2.1, hL.2.2.2.1, hL.2.2.2.2.1, fun r hr => ?_⟩ (fun z hz => mset_ne (by omega))
        refine ⟨?_, ?_, fun m hm => ?_⟩
        · show a 7 r = _
          by_cases e : r = q
          · subst e
            simp only [↓reduceIte]
            exact hs.1
          · simp only [if_neg e]
            exact (hL.2.2.2.2.2 r hr).1
        · show a 8 r = _
          by_cases e : r = q
          · subst e
            simp only [↓reduceIte]
            exact hs.2.1
          · simp only [if_neg e]
            exact (hL.2.2.2.2.2 r hr).2.1
        · show upd (a 9) (62 * q + j) _ (62 * r + m) = _
          by_cases e : r = q
          · subst e
            simp only [↓reduceIte]
            rw [nI_clamp (n := j) (by omega)]
            by_cases e2 : m = j
            · subst e2
              rw [pk_us, pk_us]
            · rw [pk_un (by omega), pk_un e2]
              exact hs.2.2 m hm
          · simp only [if_neg e]
            rw [pk_un (by omega)]
            exact (hL.2.2.2.2.2 r hr).2.2 m hm
      unfold nar at fin
      refine ⟨vq, fun c4 => ⟨vq, fun c5 => ⟨vi, fin _ (by rw [if_neg c4, if_neg c5])⟩, fun c5 => ⟨vi, fin _ (by rw [if_neg c4, if_pos (Classical.not_not.mp c5)])⟩⟩, fun c4 => ⟨vi, fin _ (by rw [if_pos (Classical.not_not.mp c4)])⟩⟩
    · rw [if_neg c3] at hp
      rw [if_neg c3]
      simp (disch := omega) only [↓EVi, ↓EVc, ↓ft_X7_lay, ↓reduceIte, ↓EV_obs, ↓EV_obn, ↓EV_ais, ↓EV_ain, ↓EV_ob h0, ↓EV_ai a7, ↓EV_ai a8, ↓EV_ai a9, mdF, mRun, List.mem_cons, List.not_mem_nil, or_false, mtab_eq, Nat.reduceEqDiff, Nat.zero_add, hd, mset2, b10, b00, not_true_eq_false, not_false_eq_true, true_implies, false_implies, implies_true, and_true, true_and, Nat.le_refl, true_or, or_true, eq_self, List.length_cons, List.length_nil, Nat.reduceAdd, Nat.reduceLT, Nat.reduceLeDiff]
      exact hp h hR0 mKeep_rfl
  · rw [if_pos (Classical.not_not.mp c2)] at hp
    exact hp h hR0 mKeep_rfl
end MCS
