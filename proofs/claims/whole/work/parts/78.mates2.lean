/-! Switching: a pair is born, dies, changes places; interlocked -/
theorem aset_ne {b : Nat → Nat → Int32} {k j : Nat} {f : Nat → Int32} (h : j ≠ k) : aset b k f j = b j := if_neg h
theorem aset_self {b : Nat → Nat → Int32} {k : Nat} : aset b k (b k) = b := by
  funext j
  unfold aset
  by_cases c : j = k
  · rw [if_pos c, c]
  · rw [if_neg c]
section SWM
variable {h : mH} {G : mG} {Q qo : Nat} {one fnd fst : Int32} {R : Nat → Nat → Int32} {my fb : Nat → Int32} {d N : Nat} {post : Option Value → mH → Prop}
/-- row i holds the mates of n strands -/
def rowM (R : Nat → Nat → Int32) (i : Nat) (mu : Nat → Nat) (n : Nat) : Prop := ∀ y, y < n → R i y = nI (mu y)
set_option maxRecDepth 10000 in
theorem s_pairNew {es : List Ev} {i p n : Nat} {mu : Nat → Nat} (hF : FrontR h G qo es) (ho : qo + 3 < Q ∨ Q + 38 < qo) (hC : SwC h G Q qo one fnd fst R my fb) (hi : i < es.length) (h30 : es.length ≤ 30) (hn : aN es i = n) (hp : p ≤ n) (h10 : n + 2 ≤ 10) (hR : rowM R i mu n) (hM : MI mu n)
    (hpost : ∀ h' f, SwC h' G Q qo one fnd fst (aset R (i + 1) f) my fb → (∀ y, y < n + 2 → f y = nI (bornF mu p y)) → mKeep h h' Q (Q + 38) → post none h') : MC G MX3_pairNew d 0 0 [.ref Q, .int (nI i), .int (nI p)] h N post := by
  obtain ⟨-, K, P, A, ⟨g0, -, -, g3⟩, -, hA⟩ := hF
  have h0 := hC.1
  have h5 := hC.2.1
  have eA : A i = nI n := by rw [← hn]; exact hA i (by omega)
  have ci : (nI i).toNatClampNeg = i := nI_clamp (by omega)
  have ci1 : (nI (i + 1)).toNatClampNeg = i + 1 := nI_clamp (by omega)
  have vi : vp_in (nI i) 31 := vp_in_nI (by omega) (by decide)
  have vi1 : vp_in (nI (i + 1)) 31 := vp_in_nI (by omega) (by decide)
  have cp : (nI p).toNatClampNeg = p := nI_clamp (by omega)
  have cp1 : (nI (p + 1)).toNatClampNeg = p + 1 := nI_clamp (by omega)
  have vp : vp_in (nI p) 10 := vp_in_nI (by omega) (by decide)
  have vp1 : vp_in (nI (p + 1)) 10 := vp_in_nI (by omega) (by decide)
  refine MC.of (L0 := [some (.ref Q), some (.int (nI i)), some (.int (nI p)), none, none, none, none]) gd_X3_pairNew (Nat.le_of_ble_eq_true rfl) rfl (MW.run gd_X3_pairNew [20] 18 ?_)
  simp (disch := omega) only [↓EVi, ↓EVc, ↓ft_X3_pairNew, ↓reduceIte, ↓EV_obs, ↓EV_obn, ↓EV_ais, ↓EV_ain, ↓EV_ob h0, ↓EV_ar h5, ↓EV_arn, mdF, mRun, List.mem_cons, List.not_mem_nil, or_false, mtab_eq, Nat.reduceEqDiff, Nat.zero_add, ci, ci1, vi, vi1, nI_1, mset2, b10, b00, not_true_eq_false, not_false_eq_true, true_implies, false_implies, implies_true, and_true, true_and, Nat.le_refl, true_or, or_true, eq_self, List.length_cons, List.length_nil, Nat.reduceAdd, Nat.reduceLT, Nat.reduceLeDiff]
  refine MW.upto n (fun s L h' => ∃ f x6, L = [some (.ref Q), some (.int (nI i)), some (.int (nI p)), some (.ref (Q + 6 + i)), some (.ref (Q + 6 + (i + 1))), some (.int (nI s)), x6] ∧ SwC h' G Q qo one fnd fst (aset R (i + 1) f) my fb ∧ (∀ y, y < s → f (shU p y) = nI (shU p (mu y))) ∧ mKeep h h' Q (Q + 38)) ?_ ?_ 0 _ _ (Nat.zero_le _) ⟨R (i + 1), none, rfl, by rw [aset_self]; exact hC, fun y hy => absurd hy (Nat.not_lt_zero _), mKeep_rfl⟩
  · rintro s L h' hs ⟨f, x6, rfl, hC', hf, hk⟩ ih
    have f0 : h' qo = some (.inr (0, [.ref (qo + 1), .ref (qo + 2), .ref (qo + 3), .int (nI es.length), .int (nI (crs es))])) := by rw [hk qo (by omega)]; exact g0
    have f3 : h' (qo + 3) = some (.inl (gC G 0, 31, .inl A)) := by rw [hk (qo + 3) (by omega)]; exact g3
    have ri : h' (Q + 6 + i) = some (.inl (gC G 0, 10, .inl (R i))) := by
      have := hC'.2.2.1 i (by omega)
      rw [aset_ne (by omega)] at this
      exact this
    have rj : h' (Q + 6 + (i + 1)) = some (.inl (gC G 0, 10, .inl f)) := by
      have := hC'.2.2.1 (i + 1) (by omega)
      rw [aset_at] at this
      exact this
    obtain ⟨m1, m2, m3⟩ := hM s hs
    have er := hR s hs
    have w1 : (nI n ≤ nI s) = False := eq_false (by simp (disch := omega) only [z_nI, z_lit, z_neg, z_add, z_sub, z_mul, z_lt, z_le, z_eq, z_in, z_cl]; omega)
    have cs : (nI s).toNatClampNeg = s := nI_clamp (by omega)
    have vs : vp_in (nI s) 10 := vp_in_nI (by omega) (by decide)
    have cs2 : (nI s + 2).toNatClampNeg = s + 2 := by simp (disch := omega) only [z_nI, z_lit, z_neg, z_add, z_sub, z_mul, z_lt, z_le, z_eq, z_in, z_cl]; omega
    have vs2 : vp_in (nI s + 2) 10 := by simp (disch := omega) only [z_nI, z_lit, z_neg, z_add, z_sub, z_mul, z_lt, z_le, z_eq, z_in, z_cl]; omega
    have nx : ∀ g, g = upd f (shU p s) (nI (shU p (mu s))) → ∀ x6, MW G MX3_pairNew (mz G d 0 0 post) 20 [some (.ref Q), some (.int (nI i)), some (.int (nI p)), some (.ref (Q + 6 + i)), some (.ref (Q + 6 + (i + 1))), some (.int (nI (s + 1))), x6] [] (mset h' (Q + 6 + (i + 1)) (.inl (gC G 0, 10, .inl g))) (N, 0, 0) := by
      intro g hg x6
      have := SwC_R (k := i + 1) (f := g) hC' (by omega)
      rw [aset_aset] at this
      refine ih _ _ ⟨g, x6, rfl, this, fun y hy => ?_, mKeep_trans hk (fun z hz => mset_ne (by omega))⟩
      rw [hg]
      by_cases c : y = s
      · rw [c, pk_us]
      · rw [pk_un (fun e => c (by unfold shU at e; split at e <;> split at e <;> omega))]
        exact hf y (by omega)
    by_cases q1 : s < p <;> by_cases q2 : mu s < p
    · have z1 : (nI p ≤ nI s) = False := eq_false (by simp (disch := omega) only [z_nI, z_lit, z_neg, z_add, z_sub, z_mul, z_lt, z_le, z_eq, z_in, z_cl]; omega)
      have z2 : (nI p ≤ nI (mu s)) = False := eq_false (by simp (disch := omega) only [z_nI, z_lit, z_neg, z_add, z_sub, z_mul, z_lt, z_le, z_eq, z_in, z_cl]; omega)
      refine MW.run1 gd_X3_pairNew [20] 36 ?_
      simp (disch := omega) only [↓EVk, ↓w_if_eq, ↓w_an_ite, ↓mEndK, ↓w_retK0, ↓w_fitK, ↓w_dupK, ↓w_dup2K, w_an_back, ↓EVd, ↓ft_X3_pairNew, ↓reduceIte, ↓EV_obs, ↓EV_obn, ↓EV_ais, ↓EV_ain, ↓EV_ob hC'.1, ↓EV_ob f0, ↓EV_ai f3, ↓EV_ai ri, ↓EV_ai rj, mdF, mRun, List.mem_cons, List.not_mem_nil, or_false, mtab_eq, Nat.reduceEqDiff, Nat.zero_add, eA, ci, vi, w1, cs, vs, er, z1, z2, nI_1, mset2, b10, b00, not_true_eq_false, not_false_eq_true, true_implies, false_implies, implies_true, and_true, true_and, Nat.le_refl, true_or, or_true, eq_self, List.length_cons, List.length_nil, Nat.reduceAdd, Nat.reduceLT, Nat.reduceLeDiff]
      exact nx _ (by unfold shU; rw [if_neg (by omega), if_neg (by omega)]) _
    · have z1 : (nI p ≤ nI s) = False := eq_false (by simp (disch := omega) only [z_nI, z_lit, z_neg, z_add, z_sub, z_mul, z_lt, z_le, z_eq, z_in, z_cl]; omega)
      have z2 : (nI p ≤ nI (mu s)) = True := eq_true (by simp (disch := omega) only [z_nI, z_lit, z_neg, z_add, z_sub, z_mul, z_lt, z_le, z_eq, z_in, z_cl]; omega)
      have e2 : nI (mu s) + 2 = nI (mu s + 2) := by simp (disch := omega) only [z_nI, z_lit, z_neg, z_add, z_sub, z_mul, z_lt, z_le, z_eq, z_in, z_cl]; congr 1
      refine MW.run1 gd_X3_pairNew [20] 36 ?_
      simp (disch := omega) only [↓EVk, ↓w_if_eq, ↓w_an_ite, ↓mEndK, ↓w_retK0, ↓w_fitK, ↓w_dupK, ↓w_dup2K, w_an_back, ↓EVd, ↓ft_X3_pairNew, ↓reduceIte, ↓EV_obs, ↓EV_obn, ↓EV_ais, ↓EV_ain, ↓EV_ob hC'.1, ↓EV_ob f0, ↓EV_ai f3, ↓EV_ai ri, ↓EV_ai rj, mdF, mRun, List.mem_cons, List.not_mem_nil, or_false, mtab_eq, Nat.reduceEqDiff, Nat.zero_add, eA, ci, vi, w1, cs, vs, er, z1, z2, nI_1, e2, mset2, b10, b00, not_true_eq_false, not_false_eq_true, true_implies, false_implies, implies_true, and_true, true_and, Nat.le_refl, true_or, or_true, eq_self, List.length_cons, List.length_nil, Nat.reduceAdd, Nat.reduceLT, Nat.reduceLeDiff]
      exact nx _ (by unfold shU; rw [if_neg (by omega), if_pos (by omega)]) _
    · have z1 : (nI p ≤ nI s) = True := eq_true (by simp (disch := omega) only [z_nI, z_lit, z_neg, z_add, z_sub, z_mul, z_lt, z_le, z_eq, z_in, z_cl]; omega)
      have z2 : (nI p ≤ nI (mu s)) = False := eq_false (by simp (disch := omega) only [z_nI, z_lit, z_neg, z_add, z_sub, z_mul, z_lt, z_le, z_eq, z_in, z_cl]; omega)
      refine MW.run1 gd_X3_pairNew [20] 36 ?_
      simp (disch := omega) only [↓EVk, ↓w_if_eq, ↓w_an_ite, ↓mEndK, ↓w_retK0, ↓w_fitK, ↓w_dupK, ↓w_dup2K, w_an_back, ↓EVd, ↓ft_X3_pairNew, ↓reduceIte, ↓EV_obs, ↓EV_obn, ↓EV_ais, ↓EV_ain, ↓EV_ob hC'.1, ↓EV_ob f0, ↓EV_ai f3, ↓EV_ai ri, ↓EV_ai rj, mdF, mRun, List.mem_cons, List.not_mem_nil, or_false, mtab_eq, Nat.reduceEqDiff, Nat.zero_add, eA, ci, vi, w1, cs, vs, cs2, vs2, er, z1, z2, nI_1, mset2, b10, b00, not_true_eq_false, not_false_eq_true, true_implies, false_implies, implies_true, and_true, true_and, Nat.le_refl, true_or, or_true, eq_self, List.length_cons, List.length_nil, Nat.reduceAdd, Nat.reduceLT, Nat.reduceLeDiff]
      exact nx _ (by unfold shU; rw [if_pos (by omega), if_neg (by omega)]) _
    · have z1 : (nI p ≤ nI s) = True := eq_true (by simp (disch := omega) only [z_nI, z_lit, z_neg, z_add, z_sub, z_mul, z_lt, z_le, z_eq, z_in, z_cl]; omega)
      have z2 : (nI p ≤ nI (mu s)) = True := eq_true (by simp (disch := omega) only [z_nI, z_lit, z_neg, z_add, z_sub, z_mul, z_lt, z_le, z_eq, z_in, z_cl]; omega)
      have e2 : nI (mu s) + 2 = nI (mu s + 2) := by simp (disch := omega) only [z_nI, z_lit, z_neg, z_add, z_sub, z_mul, z_lt, z_le, z_eq, z_in, z_cl]; congr 1
      refine MW.run1 gd_X3_pairNew [20] 36 ?_
      simp (disch := omega) only [↓EVk, ↓w_if_eq, ↓w_an_ite, ↓mEndK, ↓w_retK0, ↓w_fitK, ↓w_dupK, ↓w_dup2K, w_an_back, ↓EVd, ↓ft_X3_pairNew, ↓reduceIte, ↓EV_obs, ↓EV_obn, ↓EV_ais, ↓EV_ain, ↓EV_ob hC'.1, ↓EV_ob f0, ↓EV_ai f3, ↓EV_ai ri, ↓EV_ai rj, mdF, mRun, List.mem_cons, List.not_mem_nil, or_false, mtab_eq, Nat.reduceEqDiff, Nat.zero_add, eA, ci, vi, w1, cs, vs, cs2, vs2, er, z1, z2, nI_1, e2, mset2, b10, b00, not_true_eq_false, not_false_eq_true, true_implies, false_implies, implies_true, and_true, true_and, Nat.le_refl, true_or, or_true, eq_self, List.length_cons, List.length_nil, Nat.reduceAdd, Nat.reduceLT, Nat.reduceLeDiff]
      exact nx _ (by unfold shU; rw [if_pos (by omega), if_pos (by omega)]) _
  · rintro L h' ⟨f, x6, rfl, hC', hf, hk⟩
    have f0 : h' qo = some (.inr (0, [.ref (qo + 1), .ref (qo + 2), .ref (qo + 3), .int (nI es.length), .int (nI (crs es))])) := by rw [hk qo (by omega)]; exact g0
    have f3 : h' (qo + 3) = some (.inl (gC G 0, 31, .inl A)) := by rw [hk (qo + 3) (by omega)]; exact g3
    have rj : h' (Q + 6 + (i + 1)) = some (.inl (gC G 0, 10, .inl f)) := by
      have := hC'.2.2.1 (i + 1) (by omega)
      rw [aset_at] at this
      exact this
    have w1 : (nI n ≤ nI n) = True := eq_true (nI_le (Nat.le_refl _) (by omega))
    refine MW.run1 gd_X3_pairNew [20] 24 ?_
    simp (disch := omega) only [↓EVk, ↓w_if_eq, ↓w_an_ite, ↓mEndK, ↓w_retK0, ↓w_fitK, ↓w_dupK, ↓w_dup2K, w_an_back, ↓EVd, ↓ft_X3_pairNew, ↓reduceIte, ↓EV_obs, ↓EV_obn, ↓EV_ais, ↓EV_ain, ↓EV_ob hC'.1, ↓EV_ob f0, ↓EV_ai f3, ↓EV_ai rj, mdF, mRun, List.mem_cons, List.not_mem_nil, or_false, mtab_eq, Nat.reduceEqDiff, Nat.zero_add, eA, ci, vi, w1, nI_1, cp, vp, cp1, vp1, mset2, b10, b00, not_true_eq_false, not_false_eq_true, true_implies, false_implies, implies_true, and_true, true_and, Nat.le_refl, true_or, or_true, eq_self, List.length_cons, List.length_nil, Nat.reduceAdd, Nat.reduceLT, Nat.reduceLeDiff]
    have hC2 := SwC_R (k := i + 1) (f := upd (upd f p (nI (p + 1))) (p + 1) (nI p)) hC' (by omega)
    rw [aset_aset] at hC2
    refine hpost _ _ hC2 (fun y hy => ?_) (mKeep_trans hk (fun z hz => mset_ne (by omega)))
    unfold bornF
    rcases (by omega : y < p ∨ y = p ∨ y = p + 1 ∨ p + 1 < y) with c | c | c | c
    · rw [if_pos c, pk_un (by omega), pk_un (by omega)]
      have := hf y (by omega)
      rw [show shU p y = y from if_neg (by omega)] at this
      exact this
    · rw [if_neg (by omega), if_pos c, pk_un (by omega), c, pk_us]
    · rw [if_neg (by omega), if_neg (by omega), if_pos c, c, pk_us]
    · rw [if_neg (by omega), if_neg (by omega), if_neg (by omega), pk_un (by omega), pk_un (by omega)]
      have := hf (y - 2) (by omega)
      rw [show shU p (y - 2) = y from by unfold shU; rw [if_pos (by omega)]; omega] at this
      exact this
set_option maxRecDepth 10000 in
theorem s_dropPair {es : List Ev} {i p n : Nat} {mu : Nat → Nat} (hF : FrontR h G qo es) (ho : qo + 3 < Q ∨ Q + 38 < qo) (hC : SwC h G Q qo one fnd fst R my fb) (hi : i < es.length) (h30 : es.length ≤ 30) (hn : aN es i = n + 2) (hp : p ≤ n) (h10 : n + 2 ≤ 10) (hR : rowM R i mu (n + 2)) (hM : MI mu (n + 2)) (hm : mu p = p + 1)
    (hpost : ∀ h' f, SwC h' G Q qo one fnd fst (aset R (i + 1) f) my fb → (∀ y, y < n → f y = nI (diesF mu p y)) → mKeep h h' Q (Q + 38) → post none h') : MC G MX3_dropPair d 0 0 [.ref Q, .int (nI i), .int (nI p)] h N post := by
  obtain ⟨-, K, P, A, ⟨g0, -, -, g3⟩, -, hA⟩ := hF
  have hm2 : mu (p + 1) = p := by rw [← hm]; exact (hM p (by omega)).2.2
  have nr : ∀ z, z < n + 2 → z ≠ p → z ≠ p + 1 → mu z ≠ p ∧ mu z ≠ p + 1 := by
    intro z hz n1 n2
    have h3 := (hM z hz).2.2
    constructor
    · intro e
      rw [e, hm] at h3
      exact n2 h3.symm
    · intro e
      rw [e, hm2] at h3
      exact n1 h3.symm
  have h0 := hC.1
  have h5 := hC.2.1
  have eA : A i = nI (n + 2) := by rw [← hn]; exact hA i (by omega)
  have ci : (nI i).toNatClampNeg = i := nI_clamp (by omega)
  have ci1 : (nI (i + 1)).toNatClampNeg = i + 1 := nI_clamp (by omega)
  have vi : vp_in (nI i) 31 := vp_in_nI (by omega) (by decide)
  have vi1 : vp_in (nI (i + 1)) 31 := vp_in_nI (by omega) (by decide)
  refine MC.of (L0 := [some (.ref Q), some (.int (nI i)), some (.int (nI p)), none, none, none, none]) gd_X3_dropPair (Nat.le_of_ble_eq_true rfl) rfl (MW.run gd_X3_dropPair [20] 18 ?_)
  simp (disch := omega) only [↓EVi, ↓EVc, ↓ft_X3_dropPair, ↓reduceIte, ↓EV_obs, ↓EV_obn, ↓EV_ais, ↓EV_ain, ↓EV_ob h0, ↓EV_ar h5, ↓EV_arn, mdF, mRun, List.mem_cons, List.not_mem_nil, or_false, mtab_eq, Nat.reduceEqDiff, Nat.zero_add, ci, ci1, vi, vi1, nI_1, mset2, b10, b00, not_true_eq_false, not_false_eq_true, true_implies, false_implies, implies_true, and_true, true_and, Nat.le_refl, true_or, or_true, eq_self, List.length_cons, List.length_nil, Nat.reduceAdd, Nat.reduceLT, Nat.reduceLeDiff]
  refine MW.upto (n + 2) (fun s L h' => ∃ f x6, L = [some (.ref Q), some (.int (nI i)), some (.int (nI p)), some (.ref (Q + 6 + i)), some (.ref (Q + 6 + (i + 1))), some (.int (nI s)), x6] ∧ SwC h' G Q qo one fnd fst (aset R (i + 1) f) my fb ∧ (∀ y, y < s → y ≠ p → y ≠ p + 1 → f (shD p y) = nI (shD p (mu y))) ∧ mKeep h h' Q (Q + 38)) ?_ ?_ 0 _ _ (Nat.zero_le _) ⟨R (i + 1), none, rfl, by rw [aset_self]; exact hC, fun y hy => absurd hy (Nat.not_lt_zero _), mKeep_rfl⟩
  · rintro s L h' hs ⟨f, x6, rfl, hC', hf, hk⟩ ih
    have f0 : h' qo = some (.inr (0, [.ref (qo + 1), .ref (qo + 2), .ref (qo + 3), .int (nI es.length), .int (nI (crs es))])) := by rw [hk qo (by omega)]; exact g0
    have f3 : h' (qo + 3) = some (.inl (gC G 0, 31, .inl A)) := by rw [hk (qo + 3) (by omega)]; exact g3
    have ri : h' (Q + 6 + i) = some (.inl (gC G 0, 10, .inl (R i))) := by
      have := hC'.2.2.1 i (by omega)
      rw [aset_ne (by omega)] at this
      exact this
    have rj : h' (Q + 6 + (i + 1)) = some (.inl (gC G 0, 10, .inl f)) := by
      have := hC'.2.2.1 (i + 1) (by omega)
      rw [aset_at] at this
      exact this
    obtain ⟨m1, m2, m3⟩ := hM s hs
    have er := hR s hs
    have w1 : (nI (n + 2) ≤ nI s) = False := eq_false (by simp (disch := omega) only [z_nI, z_lit, z_neg, z_add, z_sub, z_mul, z_lt, z_le, z_eq, z_in, z_cl]; omega)
    have cs : (nI s).toNatClampNeg = s := nI_clamp (by omega)
    have vs : vp_in (nI s) 10 := vp_in_nI (by omega) (by decide)
    have ep : nI p + 1 = nI (p + 1) := nI_1 p
    rcases (by omega : (s = p ∨ s = p + 1) ∨ (s ≠ p ∧ s ≠ p + 1)) with c | c
    · have z1 : (nI s < nI p) = False := eq_false (by simp (disch := omega) only [z_nI, z_lit, z_neg, z_add, z_sub, z_mul, z_lt, z_le, z_eq, z_in, z_cl]; omega)
      have z2 : (nI s ≤ nI (p + 1)) = True := eq_true (by simp (disch := omega) only [z_nI, z_lit, z_neg, z_add, z_sub, z_mul, z_lt, z_le, z_eq, z_in, z_cl]; omega)
      refine MW.run1 gd_X3_dropPair [20] 36 ?_
      simp (disch := omega) only [↓EVk, ↓w_if_eq, ↓w_an_ite, ↓mEndK, ↓w_retK0, ↓w_fitK, ↓w_dupK, ↓w_dup2K, w_an_back, ↓EVd, ↓ft_X3_dropPair, ↓reduceIte, ↓EV_obs, ↓EV_obn, ↓EV_ais, ↓EV_ain, ↓EV_ob hC'.1, ↓EV_ob f0, ↓EV_ai f3, ↓EV_ai ri, ↓EV_ai rj, mdF, mRun, List.mem_cons, List.not_mem_nil, or_false, mtab_eq, Nat.reduceEqDiff, Nat.zero_add, eA, ci, vi, w1, cs, vs, er, z1, z2, nI_1, mset2, b10, b00, not_true_eq_false, not_false_eq_true, true_implies, false_implies, implies_true, and_true, true_and, Nat.le_refl, true_or, or_true, eq_self, List.length_cons, List.length_nil, Nat.reduceAdd, Nat.reduceLT, Nat.reduceLeDiff]
      exact ih _ _ ⟨f, _, rfl, hC', fun y hy n1 n2 => hf y (by omega) n1 n2, hk⟩
    obtain ⟨r1, r2⟩ := nr s hs c.1 c.2
    have nx : ∀ g, g = upd f (shD p s) (nI (shD p (mu s))) → ∀ x6, MW G MX3_dropPair (mz G d 0 0 post) 20 [some (.ref Q), some (.int (nI i)), some (.int (nI p)), some (.ref (Q + 6 + i)), some (.ref (Q + 6 + (i + 1))), some (.int (nI (s + 1))), x6] [] (mset h' (Q + 6 + (i + 1)) (.inl (gC G 0, 10, .inl g))) (N, 0, 0) := by
      intro g hg x6
      have := SwC_R (k := i + 1) (f := g) hC' (by omega)
      rw [aset_aset] at this
      refine ih _ _ ⟨g, x6, rfl, this, fun y hy n1 n2 => ?_, mKeep_trans hk (fun z hz => mset_ne (by omega))⟩
      rw [hg]
      by_cases c' : y = s
      · rw [c', pk_us]
      · rw [pk_un (fun e => c' (by unfold shD at e; split at e <;> split at e <;> omega))]
        exact hf y (by omega) n1 n2
    by_cases q1 : s < p <;> by_cases q2 : mu s < p
    · have z1 : (nI s < nI p) = True := eq_true (by simp (disch := omega) only [z_nI, z_lit, z_neg, z_add, z_sub, z_mul, z_lt, z_le, z_eq, z_in, z_cl]; omega)
      have z1' : (nI p ≤ nI s) = False := eq_false (by simp (disch := omega) only [z_nI, z_lit, z_neg, z_add, z_sub, z_mul, z_lt, z_le, z_eq, z_in, z_cl]; omega)
      have z2 : (nI p ≤ nI (mu s)) = False := eq_false (by simp (disch := omega) only [z_nI, z_lit, z_neg, z_add, z_sub, z_mul, z_lt, z_le, z_eq, z_in, z_cl]; omega)
      refine MW.run1 gd_X3_dropPair [20] 36 ?_
      simp (disch := omega) only [↓EVk, ↓w_if_eq, ↓w_an_ite, ↓mEndK, ↓w_retK0, ↓w_fitK, ↓w_dupK, ↓w_dup2K, w_an_back, ↓EVd, ↓ft_X3_dropPair, ↓reduceIte, ↓EV_obs, ↓EV_obn, ↓EV_ais, ↓EV_ain, ↓EV_ob hC'.1, ↓EV_ob f0, ↓EV_ai f3, ↓EV_ai ri, ↓EV_ai rj, mdF, mRun, List.mem_cons, List.not_mem_nil, or_false, mtab_eq, Nat.reduceEqDiff, Nat.zero_add, eA, ci, vi, w1, cs, vs, er, z1, z1', z2, nI_1, mset2, b10, b00, not_true_eq_false, not_false_eq_true, true_implies, false_implies, implies_true, and_true, true_and, Nat.le_refl, true_or, or_true, eq_self, List.length_cons, List.length_nil, Nat.reduceAdd, Nat.reduceLT, Nat.reduceLeDiff]
      exact nx _ (by unfold shD; rw [if_neg (by omega), if_neg (by omega)]) _
    · have z1 : (nI s < nI p) = True := eq_true (by simp (disch := omega) only [z_nI, z_lit, z_neg, z_add, z_sub, z_mul, z_lt, z_le, z_eq, z_in, z_cl]; omega)
      have z1' : (nI p ≤ nI s) = False := eq_false (by simp (disch := omega) only [z_nI, z_lit, z_neg, z_add, z_sub, z_mul, z_lt, z_le, z_eq, z_in, z_cl]; omega)
      have z2 : (nI p ≤ nI (mu s)) = True := eq_true (by simp (disch := omega) only [z_nI, z_lit, z_neg, z_add, z_sub, z_mul, z_lt, z_le, z_eq, z_in, z_cl]; omega)
      have e2 : nI (mu s) - 2 = nI (mu s - 2) := by simp (disch := omega) only [z_nI, z_lit, z_neg, z_add, z_sub, z_mul, z_lt, z_le, z_eq, z_in, z_cl]; congr 1; omega
      refine MW.run1 gd_X3_dropPair [20] 36 ?_
      simp (disch := omega) only [↓EVk, ↓w_if_eq, ↓w_an_ite, ↓mEndK, ↓w_retK0, ↓w_fitK, ↓w_dupK, ↓w_dup2K, w_an_back, ↓EVd, ↓ft_X3_dropPair, ↓reduceIte, ↓EV_obs, ↓EV_obn, ↓EV_ais, ↓EV_ain, ↓EV_ob hC'.1, ↓EV_ob f0, ↓EV_ai f3, ↓EV_ai ri, ↓EV_ai rj, mdF, mRun, List.mem_cons, List.not_mem_nil, or_false, mtab_eq, Nat.reduceEqDiff, Nat.zero_add, eA, ci, vi, w1, cs, vs, er, z1, z1', z2, nI_1, e2, mset2, b10, b00, not_true_eq_false, not_false_eq_true, true_implies, false_implies, implies_true, and_true, true_and, Nat.le_refl, true_or, or_true, eq_self, List.length_cons, List.length_nil, Nat.reduceAdd, Nat.reduceLT, Nat.reduceLeDiff]
      exact nx _ (by unfold shD; rw [if_neg (by omega), if_pos (by omega)]) _
    · have z1 : (nI s < nI p) = False := eq_false (by simp (disch := omega) only [z_nI, z_lit, z_neg, z_add, z_sub, z_mul, z_lt, z_le, z_eq, z_in, z_cl]; omega)
      have z1' : (nI p ≤ nI s) = True := eq_true (by simp (disch := omega) only [z_nI, z_lit, z_neg, z_add, z_sub, z_mul, z_lt, z_le, z_eq, z_in, z_cl]; omega)
      have z3 : (nI s ≤ nI (p + 1)) = False := eq_false (by simp (disch := omega) only [z_nI, z_lit, z_neg, z_add, z_sub, z_mul, z_lt, z_le, z_eq, z_in, z_cl]; omega)
      have z2 : (nI p ≤ nI (mu s)) = False := eq_false (by simp (disch := omega) only [z_nI, z_lit, z_neg, z_add, z_sub, z_mul, z_lt, z_le, z_eq, z_in, z_cl]; omega)
      have cs2 : (nI s - 2).toNatClampNeg = s - 2 := by simp (disch := omega) only [z_nI, z_lit, z_neg, z_add, z_sub, z_mul, z_lt, z_le, z_eq, z_in, z_cl]; omega
      have vs2 : vp_in (nI s - 2) 10 := by simp (disch := omega) only [z_nI, z_lit, z_neg, z_add, z_sub, z_mul, z_lt, z_le, z_eq, z_in, z_cl]; omega
      refine MW.run1 gd_X3_dropPair [20] 36 ?_
      simp (disch := omega) only [↓EVk, ↓w_if_eq, ↓w_an_ite, ↓mEndK, ↓w_retK0, ↓w_fitK, ↓w_dupK, ↓w_dup2K, w_an_back, ↓EVd, ↓ft_X3_dropPair, ↓reduceIte, ↓EV_obs, ↓EV_obn, ↓EV_ais, ↓EV_ain, ↓EV_ob hC'.1, ↓EV_ob f0, ↓EV_ai f3, ↓EV_ai ri, ↓EV_ai rj, mdF, mRun, List.mem_cons, List.not_mem_nil, or_false, mtab_eq, Nat.reduceEqDiff, Nat.zero_add, eA, ci, vi, w1, cs, vs, cs2, vs2, er, z1, z1', z2, z3, nI_1, mset2, b10, b00, not_true_eq_false, not_false_eq_true, true_implies, false_implies, implies_true, and_true, true_and, Nat.le_refl, true_or, or_true, eq_self, List.length_cons, List.length_nil, Nat.reduceAdd, Nat.reduceLT, Nat.reduceLeDiff]
      exact nx _ (by unfold shD; rw [if_pos (by omega), if_neg (by omega)]) _
    · have z1 : (nI s < nI p) = False := eq_false (by simp (disch := omega) only [z_nI, z_lit, z_neg, z_add, z_sub, z_mul, z_lt, z_le, z_eq, z_in, z_cl]; omega)
      have z1' : (nI p ≤ nI s) = True := eq_true (by simp (disch := omega) only [z_nI, z_lit, z_neg, z_add, z_sub, z_mul, z_lt, z_le, z_eq, z_in, z_cl]; omega)
      have z3 : (nI s ≤ nI (p + 1)) = False := eq_false (by simp (disch := omega) only [z_nI, z_lit, z_neg, z_add, z_sub, z_mul, z_lt, z_le, z_eq, z_in, z_cl]; omega)
      have z2 : (nI p ≤ nI (mu s)) = True := eq_true (by simp (disch := omega) only [z_nI, z_lit, z_neg, z_add, z_sub, z_mul, z_lt, z_le, z_eq, z_in, z_cl]; omega)
      have cs2 : (nI s - 2).toNatClampNeg = s - 2 := by simp (disch := omega) only [z_nI, z_lit, z_neg, z_add, z_sub, z_mul, z_lt, z_le, z_eq, z_in, z_cl]; omega
      have vs2 : vp_in (nI s - 2) 10 := by simp (disch := omega) only [z_nI, z_lit, z_neg, z_add, z_sub, z_mul, z_lt, z_le, z_eq, z_in, z_cl]; omega
      have e2 : nI (mu s) - 2 = nI (mu s - 2) := by simp (disch := omega) only [z_nI, z_lit, z_neg, z_add, z_sub, z_mul, z_lt, z_le, z_eq, z_in, z_cl]; congr 1; omega
      refine MW.run1 gd_X3_dropPair [20] 36 ?_
      simp (disch := omega) only [↓EVk, ↓w_if_eq, ↓w_an_ite, ↓mEndK, ↓w_retK0, ↓w_fitK, ↓w_dupK, ↓w_dup2K, w_an_back, ↓EVd, ↓ft_X3_dropPair, ↓reduceIte, ↓EV_obs, ↓EV_obn, ↓EV_ais, ↓EV_ain, ↓EV_ob hC'.1, ↓EV_ob f0, ↓EV_ai f3, ↓EV_ai ri, ↓EV_ai rj, mdF, mRun, List.mem_cons, List.not_mem_nil, or_false, mtab_eq, Nat.reduceEqDiff, Nat.zero_add, eA, ci, vi, w1, cs, vs, cs2, vs2, er, z1, z1', z2, z3, nI_1, e2, mset2, b10, b00, not_true_eq_false, not_false_eq_true, true_implies, false_implies, implies_true, and_true, true_and, Nat.le_refl, true_or, or_true, eq_self, List.length_cons, List.length_nil, Nat.reduceAdd, Nat.reduceLT, Nat.reduceLeDiff]
      exact nx _ (by unfold shD; rw [if_pos (by omega), if_pos (by omega)]) _
  · rintro L h' ⟨f, x6, rfl, hC', hf, hk⟩
    have f0 : h' qo = some (.inr (0, [.ref (qo + 1), .ref (qo + 2), .ref (qo + 3), .int (nI es.length), .int (nI (crs es))])) := by rw [hk qo (by omega)]; exact g0
    have f3 : h' (qo + 3) = some (.inl (gC G 0, 31, .inl A)) := by rw [hk (qo + 3) (by omega)]; exact g3
    have w1 : (nI (n + 2) ≤ nI (n + 2)) = True := eq_true (nI_le (Nat.le_refl _) (by omega))
    refine MW.run1 gd_X3_dropPair [20] 12 ?_
    simp (disch := omega) only [↓EVk, ↓w_if_eq, ↓w_an_ite, ↓mEndK, ↓w_retK0, ↓w_fitK, ↓w_dupK, ↓w_dup2K, w_an_back, ↓EVd, ↓ft_X3_dropPair, ↓reduceIte, ↓EV_obs, ↓EV_obn, ↓EV_ais, ↓EV_ain, ↓EV_ob hC'.1, ↓EV_ob f0, ↓EV_ai f3, mdF, mRun, List.mem_cons, List.not_mem_nil, or_false, mtab_eq, Nat.reduceEqDiff, Nat.zero_add, eA, ci, vi, w1, mset2, b10, b00, not_true_eq_false, not_false_eq_true, true_implies, false_implies, implies_true, and_true, true_and, Nat.le_refl, true_or, or_true, eq_self, List.length_cons, List.length_nil, Nat.reduceAdd, Nat.reduceLT, Nat.reduceLeDiff]
    refine hpost _ _ hC' (fun y hy => ?_) hk
    unfold diesF
    have e : shD p (if y < p then y else y + 2) = y := by
      unfold shD
      by_cases c : y < p
      · rw [if_pos c, if_neg (by omega)]
      · rw [if_neg c, if_pos (by omega)]
        omega
    have := hf (if y < p then y else y + 2) (by split <;> omega) (by split <;> omega) (by split <;> omega)
    rw [e] at this
    exact this
set_option maxRecDepth 10000 in
theorem s_changePlaces {i p n : Nat} {mu : Nat → Nat} (hd : 1 ≤ d) (hC : SwC h G Q qo one fnd fst R my fb) (hi : i < 30) (hp : p + 2 ≤ n) (h10 : n ≤ 10) (hR : rowM R i mu n) (hM : MI mu n)
    (hpost : ∀ h' f, SwC h' G Q qo one fnd fst (aset R (i + 1) f) my fb → (∀ y, y < n → f y = nI (swF mu p y)) → mKeep h h' Q (Q + 38) → post none h') : MC G MX3_changePlaces d 0 0 [.ref Q, .int (nI i), .int (nI p)] h N post := by
  have h0 := hC.1
  have h5 := hC.2.1
  have ri := hC.2.2.1 i (by omega)
  have rj := hC.2.2.1 (i + 1) (by omega)
  have ci : (nI i).toNatClampNeg = i := nI_clamp (by omega)
  have ci1 : (nI (i + 1)).toNatClampNeg = i + 1 := nI_clamp (by omega)
  have vi : vp_in (nI i) 31 := vp_in_nI (by omega) (by decide)
  have vi1 : vp_in (nI (i + 1)) 31 := vp_in_nI (by omega) (by decide)
  have cp : (nI p).toNatClampNeg = p := nI_clamp (by omega)
  have cp1 : (nI (p + 1)).toNatClampNeg = p + 1 := nI_clamp (by omega)
  have vp : vp_in (nI p) 10 := vp_in_nI (by omega) (by decide)
  have vp1 : vp_in (nI (p + 1)) 10 := vp_in_nI (by omega) (by decide)
  have e1 := hR p (by omega)
  have e2 := hR (p + 1) (by omega)
  have l1 := (hM p (by omega)).1
  have l2 := (hM (p + 1) (by omega)).1
  have ca : (nI (mu p)).toNatClampNeg = mu p := nI_clamp (by omega)
  have va : vp_in (nI (mu p)) 10 := vp_in_nI (by omega) (by decide)
  have cb : (nI (mu (p + 1))).toNatClampNeg = mu (p + 1) := nI_clamp (by omega)
  have vb : vp_in (nI (mu (p + 1))) 10 := vp_in_nI (by omega) (by decide)
  have z0 : (0 : Int32).toNatClampNeg = 0 := rfl
  have z1 : ((0 : Int32) < 0) = False := eq_false (by decide)
  have z2 : (10 : Int32).toNatClampNeg = 10 := rfl
  have z3 : ((10 : Int32) < 0) = False := eq_false (by decide)
  refine MC.of (L0 := [some (.ref Q), some (.int (nI i)), some (.int (nI p)), none, none, none]) gd_X3_changePlaces (Nat.le_of_ble_eq_true rfl) rfl (MW.run gd_X3_changePlaces [23] 20 ?_)
  simp (disch := omega) only [↓EVk, ↓w_if_eq, ↓w_an_ite, ↓mEndK, ↓w_retK0, ↓w_fitK, ↓w_dupK, ↓w_dup2K, w_an_back, ↓EVd, ↓ft_X3_changePlaces, ↓reduceIte, ↓EV_obs, ↓EV_obn, ↓EV_ais, ↓EV_ain, ↓EV_ob h0, ↓EV_ar h5, ↓EV_arn, ↓EV_ai ri, ↓EV_ai rj, mdF, mRun, List.mem_cons, List.not_mem_nil, or_false, mtab_eq, Nat.reduceEqDiff, Nat.zero_add, ci, ci1, vi, vi1, nI_1, hd, z0, z1, z2, z3, mset2, b10, b00, not_true_eq_false, not_false_eq_true, true_implies, false_implies, implies_true, and_true, true_and, Nat.le_refl, true_or, or_true, eq_self, List.length_cons, List.length_nil, Nat.reduceAdd, Nat.reduceLT, Nat.reduceLeDiff]
  have hC1 := SwC_R (k := i + 1) (f := va_cpy (R i) (R (i + 1)) 0 0 10) hC (by omega)
  generalize hh : mset h (Q + 6 + (i + 1)) (.inl (gC G 0, 10, .inl (va_cpy (R i) (R (i + 1)) 0 0 10))) = h1 at hC1 ⊢
  have q0 := hC1.1
  have q5 := hC1.2.1
  have qi : h1 (Q + 6 + i) = some (.inl (gC G 0, 10, .inl (R i))) := by
    have := hC1.2.2.1 i (by omega)
    rw [aset_ne (by omega)] at this
    exact this
  have qj : h1 (Q + 6 + (i + 1)) = some (.inl (gC G 0, 10, .inl (va_cpy (R i) (R (i + 1)) 0 0 10))) := by
    have := hC1.2.2.1 (i + 1) (by omega)
    rw [aset_at] at this
    exact this
  refine MW.run1 gd_X3_changePlaces [] 40 ?_
  simp (disch := omega) only [↓EVk, ↓w_if_eq, ↓w_an_ite, ↓mEndK, ↓w_retK0, ↓w_fitK, ↓w_dupK, ↓w_dup2K, w_an_back, ↓EVd, ↓ft_X3_changePlaces, ↓reduceIte, ↓EV_obs, ↓EV_obn, ↓EV_ais, ↓EV_ain, ↓EV_ob q0, ↓EV_ar q5, ↓EV_arn, ↓EV_ai qi, ↓EV_ai qj, mdF, mRun, List.mem_cons, List.not_mem_nil, or_false, mtab_eq, Nat.reduceEqDiff, Nat.zero_add, ci, vi, nI_1, cp, vp, cp1, vp1, e1, e2, ca, va, cb, vb, mset2, b10, b00, not_true_eq_false, not_false_eq_true, true_implies, false_implies, implies_true, and_true, true_and, Nat.le_refl, true_or, or_true, eq_self, List.length_cons, List.length_nil, Nat.reduceAdd, Nat.reduceLT, Nat.reduceLeDiff]
  have hC2 := SwC_R (k := i + 1) (f := upd (upd (upd (upd (va_cpy (R i) (R (i + 1)) 0 0 10) p (nI (mu (p + 1)))) (mu (p + 1)) (nI p)) (p + 1) (nI (mu p))) (mu p) (nI (p + 1))) hC1 (by omega)
  rw [aset_aset] at hC2
  refine hpost _ _ hC2 (fun y hy => ?_) (fun z hz => by rw [mset_ne (by omega), ← hh, mset_ne (by omega)])
  have ev : swF mu p y = if y = mu p then p + 1 else if y = p + 1 then mu p else if y = mu (p + 1) then p else if y = p then mu (p + 1) else mu y := rfl
  rw [ev]
  by_cases c1 : y = mu p
  · rw [if_pos c1, c1, pk_us]
  rw [if_neg c1, pk_un c1]
  by_cases c2 : y = p + 1
  · rw [if_pos c2, c2, pk_us]
  rw [if_neg c2, pk_un c2]
  by_cases c3 : y = mu (p + 1)
  · rw [if_pos c3, c3, pk_us]
  rw [if_neg c3, pk_un c3]
  by_cases c4 : y = p
  · rw [if_pos c4, c4, pk_us]
  rw [if_neg c4, pk_un c4, pk_cpy_in (by omega) (by omega), Nat.zero_add, Nat.sub_zero]
  exact hR y hy
set_option maxRecDepth 10000 in
theorem s_interlocked {i p n : Nat} {mu : Nat → Nat} (hd : 1 ≤ d) (hC : SwC h G Q qo one fnd fst R my fb) (hi : i < 30) (hp : p + 2 ≤ n) (h10 : n ≤ 10) (hR : rowM R i mu n) (hM : MI mu n)
    (hpost : post (some (.int (if mxd mu p then 1 else 0))) h) : MC G MX3_interlocked d 0 0 [.ref Q, .int (nI i), .int (nI p)] h N post := by
  have h0 := hC.1
  have h5 := hC.2.1
  have ri := hC.2.2.1 i (by omega)
  have ci : (nI i).toNatClampNeg = i := nI_clamp (by omega)
  have vi : vp_in (nI i) 31 := vp_in_nI (by omega) (by decide)
  have cp : (nI p).toNatClampNeg = p := nI_clamp (by omega)
  have cp1 : (nI (p + 1)).toNatClampNeg = p + 1 := nI_clamp (by omega)
  have vp : vp_in (nI p) 10 := vp_in_nI (by omega) (by decide)
  have vp1 : vp_in (nI (p + 1)) 10 := vp_in_nI (by omega) (by decide)
  have e1 := hR p (by omega)
  have e2 := hR (p + 1) (by omega)
  obtain ⟨l1, l1', -⟩ := hM p (by omega)
  have l2 := (hM (p + 1) (by omega)).1
  have mn : (if nI (mu p) < nI p then nI (mu p) else nI p) = nI (if p < mu p then p else mu p) := by
    by_cases c : p < mu p
    · rw [if_pos c, if_neg (by simp (disch := omega) only [z_nI, z_lit, z_neg, z_add, z_sub, z_mul, z_lt, z_le, z_eq, z_in, z_cl]; omega)]
    · rw [if_neg c, if_pos (by simp (disch := omega) only [z_nI, z_lit, z_neg, z_add, z_sub, z_mul, z_lt, z_le, z_eq, z_in, z_cl]; omega)]
  have mx : (if nI p < nI (mu p) then nI (mu p) else nI p) = nI (if p < mu p then mu p else p) := by
    by_cases c : p < mu p
    · rw [if_pos c, if_pos (by simp (disch := omega) only [z_nI, z_lit, z_neg, z_add, z_sub, z_mul, z_lt, z_le, z_eq, z_in, z_cl]; omega)]
    · rw [if_neg c, if_neg (by simp (disch := omega) only [z_nI, z_lit, z_neg, z_add, z_sub, z_mul, z_lt, z_le, z_eq, z_in, z_cl]; omega)]
  refine MC.of (L0 := [some (.ref Q), some (.int (nI i)), some (.int (nI p)), none, none, none, none, none, none]) gd_X3_interlocked (Nat.le_of_ble_eq_true rfl) rfl (MW.run gd_X3_interlocked [35] 34 ?_)
  simp (disch := omega) only [↓EVk, ↓w_if_eq, ↓w_an_ite, ↓mEndK, ↓w_retK0, ↓w_fitK, ↓w_dupK, ↓w_dup2K, w_an_back, ↓EVd, ↓ft_X3_interlocked, ↓reduceIte, ↓EV_obs, ↓EV_obn, ↓EV_ais, ↓EV_ain, ↓EV_ob h0, ↓EV_ar h5, ↓EV_arn, ↓EV_ai ri, mdF, mRun, List.mem_cons, List.not_mem_nil, or_false, mtab_eq, Nat.reduceEqDiff, Nat.zero_add, ci, vi, nI_1, hd, cp, vp, cp1, vp1, e1, e2, mn, mx, mset2, b10, b00, not_true_eq_false, not_false_eq_true, true_implies, false_implies, implies_true, and_true, true_and, Nat.le_refl, true_or, or_true, eq_self, List.length_cons, List.length_nil, Nat.reduceAdd, Nat.reduceLT, Nat.reduceLeDiff]
  unfold mxd btw at hpost
  have hlo : (if p < mu p then p else mu p) < 10 := by split <;> omega
  have hhi : (if p < mu p then mu p else p) < 10 := by split <;> omega
  generalize (if p < mu p then p else mu p) = lo at *
  generalize (if p < mu p then mu p else p) = hi' at *
  generalize mu (p + 1) = w at *
  have q1 : (nI (p + 1) ≤ nI lo) ↔ ¬ lo < p + 1 := by simp (disch := omega) only [z_nI, z_lit, z_neg, z_add, z_sub, z_mul, z_lt, z_le, z_eq, z_in, z_cl]; omega
  have q2 : (nI hi' ≤ nI (p + 1)) ↔ ¬ p + 1 < hi' := by simp (disch := omega) only [z_nI, z_lit, z_neg, z_add, z_sub, z_mul, z_lt, z_le, z_eq, z_in, z_cl]; omega
  have q3 : (nI w ≤ nI lo) ↔ ¬ lo < w := by simp (disch := omega) only [z_nI, z_lit, z_neg, z_add, z_sub, z_mul, z_lt, z_le, z_eq, z_in, z_cl]; omega
  have q4 : (nI hi' ≤ nI w) ↔ ¬ w < hi' := by simp (disch := omega) only [z_nI, z_lit, z_neg, z_add, z_sub, z_mul, z_lt, z_le, z_eq, z_in, z_cl]; omega
  have b01' : ¬ ((0 : Int32) = 1) := by decide
  have b10' : ¬ ((1 : Int32) = 0) := by decide
  refine MW.run1 gd_X3_interlocked [] 40 ?_
  simp (disch := omega) only [↓EVi, ↓EVc, ↓ft_X3_interlocked, ↓reduceIte, ↓EV_obs, ↓EV_obn, ↓EV_ais, ↓EV_ain, mdF, mRun, List.mem_cons, List.not_mem_nil, or_false, mtab_eq, Nat.reduceEqDiff, Nat.zero_add, nI_1, q1, q2, q3, q4, b01', b10', mset2, b10, b00, not_true_eq_false, not_false_eq_true, true_implies, false_implies, implies_true, and_true, true_and, Nat.le_refl, true_or, or_true, eq_self, List.length_cons, List.length_nil, Nat.reduceAdd, Nat.reduceLT, Nat.reduceLeDiff]
  by_cases k1 : lo < p + 1 <;> by_cases k2 : p + 1 < hi' <;> by_cases k3 : lo < w <;> by_cases k4 : w < hi' <;> simp only [k1, k2, k3, k4, true_and, and_true, false_and, and_false, and_self, not_true_eq_false, not_false_eq_true, iff_self, iff_true, iff_false, true_iff, false_iff, ↓reduceIte] at hpost <;> simp only [k1, k2, k3, k4, not_true_eq_false, not_false_eq_true, true_implies, false_implies, and_true, true_and, implies_true, hpost]
end SWM
