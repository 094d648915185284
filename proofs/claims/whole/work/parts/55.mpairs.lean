/-! the model: crossed, born, dies -/
section GOS
variable {G : mG} {d N M : Nat} {h : mH} {post : Option Value → mH → Prop} {v : Nat → Int32} {a : Nat → Nat → Int32}
set_option maxRecDepth 10000 in
theorem m_crossed {p n : Nat} {mu : Nat → Nat} {b : Bool} {x y : Int32} (hd : 1 ≤ d) (hM : ModelC h G M v a) (hI : MI mu n) (hr : mtR a mu n) (hp2 : p + 2 ≤ n) (hn : n ≤ 10) (hx : x = nI p) (hy : y = (if b = true then 1 else 0))
    (h0' : (mu p = p + 1 ∨ (b = true ∧ mxd mu p)) → post (some (.int 0)) h)
    (h1' : ¬ mu p = p + 1 → b = true → ¬ mxd mu p → post (some (.int 1)) h)
    (h2' : ¬ mu p = p + 1 → b = false → ∀ h' a', ModelC h' G M v a' → mtR a' (swF mu p) n → (∀ k, k ≠ 16 → a' k = a k) → mKeep h h' M (M + 17) → post (some (.int 1)) h') : MC G MX7_crossed d 0 0 [.ref M, .int x, .int y] h N post := by
  subst hx
  have h0 := hM.1
  have a16 : h (M + 16) = some (.inl (gC G 0, 10, .inl (a 16))) := hM.2 16 (by decide) (by decide)
  obtain ⟨p1, p2, p3⟩ := hI p (by omega)
  obtain ⟨r1, r2, r3⟩ := hI (p + 1) (by omega)
  have e1 : a 16 p = nI (mu p) := hr p (by omega)
  have e2 : a 16 (p + 1) = nI (mu (p + 1)) := hr (p + 1) (by omega)
  have c1 : (nI p).toNatClampNeg = p := nI_clamp (by omega)
  have c2 : (nI p + 1).toNatClampNeg = p + 1 := by rw [nI_1]; exact nI_clamp (by omega)
  have v1 : vp_in (nI p) 10 := vp_in_nI (by omega) (by decide)
  have v2 : vp_in (nI p + 1) 10 := by rw [nI_1]; exact vp_in_nI (by omega) (by decide)
  refine MC.of (L0 := [some (.ref M), some (.int (nI p)), some (.int y), none, none]) gd_X7_crossed (Nat.le_of_ble_eq_true rfl) rfl (MW.run gd_X7_crossed [17] 20 ?_)
  simp (disch := omega) only [↓EVi, ↓EVc, ↓ft_X7_crossed, ↓reduceIte, ↓EV_obs, ↓EV_obn, ↓EV_ais, ↓EV_ain, ↓EV_ob h0, ↓EV_ai a16, mdF, mRun, List.mem_cons, List.not_mem_nil, or_false, mtab_eq, Nat.reduceEqDiff, Nat.zero_add, c1, c2, v1, v2, e1, e2, mset2, b10, b00, not_true_eq_false, not_false_eq_true, true_implies, false_implies, implies_true, and_true, true_and, Nat.le_refl, true_or, or_true, eq_self, List.length_cons, List.length_nil, Nat.reduceAdd, Nat.reduceLT, Nat.reduceLeDiff]
  by_cases k1 : mu p = p + 1
  · have f1 : (nI (mu p) = nI p + 1) = True := eq_true (by rw [k1, nI_1])
    refine MW.run1 gd_X7_crossed [] 20 ?_
    simp (disch := omega) only [↓EVk, ↓w_if_eq, ↓w_an_ite, ↓mEndK, ↓w_retK0, ↓w_fitK, ↓w_dupK, ↓w_dup2K, w_an_back, ↓EVd, ↓ft_X7_crossed, ↓reduceIte, ↓EV_obs, ↓EV_obn, ↓EV_ais, ↓EV_ain, ↓EV_ob h0, mdF, mRun, List.mem_cons, List.not_mem_nil, or_false, mtab_eq, Nat.reduceEqDiff, Nat.zero_add, f1, mset2, b10, b00, not_true_eq_false, not_false_eq_true, true_implies, false_implies, implies_true, and_true, true_and, Nat.le_refl, true_or, or_true, eq_self, List.length_cons, List.length_nil, Nat.reduceAdd, Nat.reduceLT, Nat.reduceLeDiff]
    exact h0' (Or.inl k1)
  have f1 : (nI (mu p) = nI p + 1) = False := eq_false (fun z => k1 (by rw [nI_1] at z; exact (nI_eq (by omega) (by omega)).mp z))
  cases b with
  | true =>
    rw [if_pos rfl] at hy
    subst hy
    refine MW.run1 gd_X7_crossed [49] 20 ?_
    simp (disch := omega) only [↓EVk, ↓w_if_eq, ↓w_an_ite, ↓mEndK, ↓w_retK0, ↓w_fitK, ↓w_dupK, ↓w_dup2K, w_an_back, ↓EVd, ↓ft_X7_crossed, ↓reduceIte, ↓EV_obs, ↓EV_obn, ↓EV_ais, ↓EV_ain, ↓EV_ob h0, mdF, mRun, List.mem_cons, List.not_mem_nil, or_false, mtab_eq, Nat.reduceEqDiff, Nat.zero_add, f1, hd, mset2, b10, b00, not_true_eq_false, not_false_eq_true, true_implies, false_implies, implies_true, and_true, true_and, Nat.le_refl, true_or, or_true, eq_self, List.length_cons, List.length_nil, Nat.reduceAdd, Nat.reduceLT, Nat.reduceLeDiff]
    rw [nI_1]
    refine m_isMixed (by omega) (by omega) (by omega) (by omega) ?_
    by_cases k2 : mxd mu p
    · rw [if_pos k2]
      simp (disch := omega) only [↓EVk, ↓w_if_eq, ↓w_an_ite, ↓mEndK, ↓w_retK0, ↓w_fitK, ↓w_dupK, ↓w_dup2K, w_an_back, ↓EVd, ↓ft_X7_crossed, ↓reduceIte, ↓EV_obs, ↓EV_obn, ↓EV_ais, ↓EV_ain, ↓EV_ob h0, mdF, mRun, List.mem_cons, List.not_mem_nil, or_false, mtab_eq, Nat.reduceEqDiff, Nat.zero_add, f1, hd, mset2, b10, b00, not_true_eq_false, not_false_eq_true, true_implies, false_implies, implies_true, and_true, true_and, Nat.le_refl, true_or, or_true, eq_self, List.length_cons, List.length_nil, Nat.reduceAdd, Nat.reduceLT, Nat.reduceLeDiff]
      exact h0' (Or.inr ⟨rfl, k2⟩)
    · rw [if_neg k2]
      simp (disch := omega) only [↓EVk, ↓w_if_eq, ↓w_an_ite, ↓mEndK, ↓w_retK0, ↓w_fitK, ↓w_dupK, ↓w_dup2K, w_an_back, ↓EVd, ↓ft_X7_crossed, ↓reduceIte, ↓EV_obs, ↓EV_obn, ↓EV_ais, ↓EV_ain, ↓EV_ob h0, mdF, mRun, List.mem_cons, List.not_mem_nil, or_false, mtab_eq, Nat.reduceEqDiff, Nat.zero_add, f1, hd, mset2, b10, b00, not_true_eq_false, not_false_eq_true, true_implies, false_implies, implies_true, and_true, true_and, Nat.le_refl, true_or, or_true, eq_self, List.length_cons, List.length_nil, Nat.reduceAdd, Nat.reduceLT, Nat.reduceLeDiff]
      exact h1' k1 rfl k2
  | false =>
    rw [if_neg (by decide)] at hy
    subst hy
    refine MW.run1 gd_X7_crossed [49] 20 ?_
    simp (disch := omega) only [↓EVk, ↓w_if_eq, ↓w_an_ite, ↓mEndK, ↓w_retK0, ↓w_fitK, ↓w_dupK, ↓w_dup2K, w_an_back, ↓EVd, ↓ft_X7_crossed, ↓reduceIte, ↓EV_obs, ↓EV_obn, ↓EV_ais, ↓EV_ain, ↓EV_ob h0, mdF, mRun, List.mem_cons, List.not_mem_nil, or_false, mtab_eq, Nat.reduceEqDiff, Nat.zero_add, f1, mset2, b10, b00, not_true_eq_false, not_false_eq_true, true_implies, false_implies, implies_true, and_true, true_and, Nat.le_refl, true_or, or_true, eq_self, List.length_cons, List.length_nil, Nat.reduceAdd, Nat.reduceLT, Nat.reduceLeDiff]
    have c3 : (nI (mu (p + 1))).toNatClampNeg = mu (p + 1) := nI_clamp (by omega)
    have c4 : (nI (mu p)).toNatClampNeg = mu p := nI_clamp (by omega)
    have v3 : vp_in (nI (mu (p + 1))) 10 := vp_in_nI (by omega) (by decide)
    have v4 : vp_in (nI (mu p)) 10 := vp_in_nI (by omega) (by decide)
    refine MW.run1 gd_X7_crossed [] 40 ?_
    simp (disch := omega) only [↓EVi, ↓EVc, ↓ft_X7_crossed, ↓reduceIte, ↓EV_obs, ↓EV_obn, ↓EV_ais, ↓EV_ain, ↓EV_ob h0, ↓EV_ai a16, mdF, mRun, List.mem_cons, List.not_mem_nil, or_false, mtab_eq, Nat.reduceEqDiff, Nat.zero_add, c1, c2, c3, c4, v1, v2, v3, v4, mset2, b10, b00, not_true_eq_false, not_false_eq_true, true_implies, false_implies, implies_true, and_true, true_and, Nat.le_refl, true_or, or_true, eq_self, List.length_cons, List.length_nil, Nat.reduceAdd, Nat.reduceLT, Nat.reduceLeDiff]
    refine h2' k1 rfl _ _ (ModelC_a (k := 16) (f := upd (upd (upd (upd (a 16) p (nI (mu (p + 1)))) (mu (p + 1)) (nI p)) (p + 1) (nI (mu p))) (mu p) (nI p + 1)) hM (by decide) (by decide)) (fun z hz => ?_) (fun k hk => ?_) (fun z hz => mset_ne (by omega))
    · show upd (upd (upd (upd (a 16) p (nI (mu (p + 1)))) (mu (p + 1)) (nI p)) (p + 1) (nI (mu p))) (mu p) (nI p + 1) z = nI (swF mu p z)
      have ev : swF mu p z = if z = mu p then p + 1 else if z = p + 1 then mu p else if z = mu (p + 1) then p else if z = p then mu (p + 1) else mu z := rfl
      rw [ev]
      by_cases q1 : z = mu p
      · rw [if_pos q1, q1, pk_us, nI_1]
      rw [if_neg q1, pk_un q1]
      by_cases q2 : z = p + 1
      · rw [if_pos q2, q2, pk_us]
      rw [if_neg q2, pk_un q2]
      by_cases q3 : z = mu (p + 1)
      · rw [if_pos q3, q3, pk_us]
      rw [if_neg q3, pk_un q3]
      by_cases q4 : z = p
      · rw [if_pos q4, q4, pk_us]
      rw [if_neg q4, pk_un q4]
      exact hr z hz
    · unfold aset
      rw [if_neg hk]
set_option maxRecDepth 10000 in
theorem m_born {p n : Nat} {mu : Nat → Nat} {x y : Int32} (hM : ModelC h G M v a) (hI : MI mu n) (hr : mtR a mu n) (hp2 : p ≤ n) (hn : n + 2 ≤ 10) (hx : x = nI p) (hy : y = nI n)
    (hp : ∀ h' a', ModelC h' G M v a' → mtR a' (bornF mu p) (n + 2) → (∀ k, k ≠ 16 → a' k = a k) → mKeep h h' M (M + 17) → post none h') : MC G MX7_born d 0 0 [.ref M, .int x, .int y] h N post := by
  subst hx
  subst hy
  have h0 := hM.1
  refine MC.of (L0 := [some (.ref M), some (.int (nI p)), some (.int (nI n)), none, none]) gd_X7_born (Nat.le_of_ble_eq_true rfl) rfl (MW.run gd_X7_born [4] 20 ?_)
  simp (disch := omega) only [↓EVi, ↓EVc, ↓ft_X7_born, ↓reduceIte, ↓EV_obs, ↓EV_obn, ↓EV_ais, ↓EV_ain, ↓EV_ob h0, mdF, mRun, List.mem_cons, List.not_mem_nil, or_false, mtab_eq, Nat.reduceEqDiff, Nat.zero_add, mset2, b10, b00, not_true_eq_false, not_false_eq_true, true_implies, false_implies, implies_true, and_true, true_and, Nat.le_refl, true_or, or_true, eq_self, List.length_cons, List.length_nil, Nat.reduceAdd, Nat.reduceLT, Nat.reduceLeDiff]
  have e0 : nI n - 1 = zI ((n : Int) - 1 - ((0 : Nat) : Int)) := by simp (disch := omega) only [z_nI, z_lit, z_neg, z_add, z_sub, z_mul, z_lt, z_le, z_eq, z_in, z_cl]; omega
  rw [e0]
  refine MW.upto n (fun i L h' => ∃ a' x4, L = [some (.ref M), some (.int (nI p)), some (.int (nI n)), some (.int (zI ((n : Int) - 1 - (i : Int)))), x4] ∧ ModelC h' G M v a' ∧ (∀ j, j < n - i → a' 16 j = nI (mu j)) ∧ (∀ j, n - i ≤ j → j < n → a' 16 (shU p j) = nI (shU p (mu j))) ∧ (∀ k, k ≠ 16 → a' k = a k) ∧ mKeep h h' M (M + 17)) ?_ ?_ 0 _ _ (Nat.zero_le _) ⟨a, none, rfl, hM, fun j hj => hr j (by omega), fun j h1 h2 => absurd h2 (by omega), fun _ _ => rfl, mKeep_rfl⟩
  · rintro i L h' hi ⟨a', x4, rfl, hM', u1, u2, u3, hk⟩ ih
    have h0 := hM'.1
    have a16 : h' (M + 16) = some (.inl (gC G 0, 10, .inl (a' 16))) := hM'.2 16 (by decide) (by decide)
    obtain ⟨j, hj⟩ : ∃ j, j = n - 1 - i := ⟨_, rfl⟩
    have ej : zI ((n : Int) - 1 - (i : Int)) = nI j := by rw [z_nI]; exact zI_congr (by omega)
    have ej2 : nI j + -1 = zI ((n : Int) - 1 - ((i + 1 : Nat) : Int)) := by simp (disch := omega) only [z_nI, z_lit, z_neg, z_add, z_sub, z_mul, z_lt, z_le, z_eq, z_in, z_cl]; omega
    obtain ⟨m1, m2, m3⟩ := hI j (by omega)
    have g1 : a' 16 j = nI (mu j) := u1 j (by omega)
    have c1 : (nI j).toNatClampNeg = j := nI_clamp (by omega)
    have v1 : vp_in (nI j) 10 := vp_in_nI (by omega) (by decide)
    have f1 : (nI j < 0) = False := eq_false (by simp (disch := omega) only [z_nI, z_lit, z_neg, z_add, z_sub, z_mul, z_lt, z_le, z_eq, z_in, z_cl]; omega)
    rw [ej]
    have st2 : ∀ (A B : Nat), A = shU p (mu j) → B = shU p j → ∀ z4, MW G MX7_born (mz G d 0 0 post) 4 [some (.ref M), some (.int (nI p)), some (.int (nI n)), some (.int (nI j + -1)), z4] [] (mset h' (M + 16) (.inl (gC G 0, 10, .inl (upd (a' 16) B (nI A))))) (N, 0, 0) := by
      rintro A B rfl rfl z4
      rw [ej2]
      have inj : ∀ w, shU p w = shU p j → w = j := by
        intro w e
        unfold shU at e
        split at e <;> split at e <;> omega
      refine ih _ _ ⟨_, z4, rfl, ModelC_a (k := 16) hM' (by decide) (by decide), fun w hw => ?_, fun w w1 w2 => ?_, fun k hk => ?_, fun z hz => by rw [mset_ne (by omega)]; exact hk z hz⟩
      · show upd (a' 16) (shU p j) _ w = _
        have : w ≠ shU p j := by unfold shU; split <;> omega
        rw [pk_un this]
        exact u1 w (by omega)
      · show upd (a' 16) (shU p j) _ (shU p w) = _
        by_cases e : w = j
        · subst e
          exact pk_us
        · rw [pk_un (fun z => e (inj w z))]
          exact u2 w (by omega) w2
      · unfold aset
        rw [if_neg hk]
        exact u3 k hk
    have c2 : (nI j + 2).toNatClampNeg = j + 2 := by simp (disch := omega) only [z_nI, z_lit, z_neg, z_add, z_sub, z_mul, z_lt, z_le, z_eq, z_in, z_cl]; omega
    have v2 : vp_in (nI j + 2) 10 := by simp (disch := omega) only [z_nI, z_lit, z_neg, z_add, z_sub, z_mul, z_lt, z_le, z_eq, z_in, z_cl]; omega
    have w1 : (nI (mu j) < nI p) ↔ ¬ p ≤ mu j := by simp (disch := omega) only [z_nI, z_lit, z_neg, z_add, z_sub, z_mul, z_lt, z_le, z_eq, z_in, z_cl]; omega
    have w2 : (nI j < nI p) ↔ ¬ p ≤ j := by simp (disch := omega) only [z_nI, z_lit, z_neg, z_add, z_sub, z_mul, z_lt, z_le, z_eq, z_in, z_cl]; omega
    have s2 : nI (mu j) + 2 = nI (mu j + 2) := nI_add _ 2
    clear ih
    by_cases k1 : p ≤ mu j
    · have g2 : (nI (mu j) < nI p) = False := eq_false (fun z => w1.mp z k1)
      have sa : mu j + 2 = shU p (mu j) := by unfold shU; rw [if_pos k1]
      by_cases k2 : p ≤ j
      · have g3 : (nI j < nI p) = False := eq_false (fun z => w2.mp z k2)
        refine MW.run1 gd_X7_born [4] 34 ?_
        simp (disch := omega) only [↓EVk, ↓w_if_eq, ↓w_an_ite, ↓mEndK, ↓w_retK0, ↓w_fitK, ↓w_dupK, ↓w_dup2K, w_an_back, ↓EVd, ↓ft_X7_born, ↓reduceIte, ↓EV_obs, ↓EV_obn, ↓EV_ais, ↓EV_ain, ↓EV_ob h0, ↓EV_ai a16, mdF, mRun, List.mem_cons, List.not_mem_nil, or_false, mtab_eq, Nat.reduceEqDiff, Nat.zero_add, c1, c2, v1, v2, g1, f1, g2, g3, s2, mset2, b10, b00, not_true_eq_false, not_false_eq_true, true_implies, false_implies, implies_true, and_true, true_and, Nat.le_refl, true_or, or_true, eq_self, List.length_cons, List.length_nil, Nat.reduceAdd, Nat.reduceLT, Nat.reduceLeDiff]
        exact st2 _ _ sa (by unfold shU; rw [if_pos k2]) _
      · have g3 : (nI j < nI p) = True := eq_true (w2.mpr k2)
        refine MW.run1 gd_X7_born [4] 34 ?_
        simp (disch := omega) only [↓EVk, ↓w_if_eq, ↓w_an_ite, ↓mEndK, ↓w_retK0, ↓w_fitK, ↓w_dupK, ↓w_dup2K, w_an_back, ↓EVd, ↓ft_X7_born, ↓reduceIte, ↓EV_obs, ↓EV_obn, ↓EV_ais, ↓EV_ain, ↓EV_ob h0, ↓EV_ai a16, mdF, mRun, List.mem_cons, List.not_mem_nil, or_false, mtab_eq, Nat.reduceEqDiff, Nat.zero_add, c1, c2, v1, v2, g1, f1, g2, g3, s2, mset2, b10, b00, not_true_eq_false, not_false_eq_true, true_implies, false_implies, implies_true, and_true, true_and, Nat.le_refl, true_or, or_true, eq_self, List.length_cons, List.length_nil, Nat.reduceAdd, Nat.reduceLT, Nat.reduceLeDiff]
        exact st2 _ _ sa (by unfold shU; rw [if_neg k2]) _
    · have g2 : (nI (mu j) < nI p) = True := eq_true (w1.mpr k1)
      have sa : mu j = shU p (mu j) := by unfold shU; rw [if_neg k1]
      by_cases k2 : p ≤ j
      · have g3 : (nI j < nI p) = False := eq_false (fun z => w2.mp z k2)
        refine MW.run1 gd_X7_born [4] 34 ?_
        simp (disch := omega) only [↓EVk, ↓w_if_eq, ↓w_an_ite, ↓mEndK, ↓w_retK0, ↓w_fitK, ↓w_dupK, ↓w_dup2K, w_an_back, ↓EVd, ↓ft_X7_born, ↓reduceIte, ↓EV_obs, ↓EV_obn, ↓EV_ais, ↓EV_ain, ↓EV_ob h0, ↓EV_ai a16, mdF, mRun, List.mem_cons, List.not_mem_nil, or_false, mtab_eq, Nat.reduceEqDiff, Nat.zero_add, c1, c2, v1, v2, g1, f1, g2, g3, s2, mset2, b10, b00, not_true_eq_false, not_false_eq_true, true_implies, false_implies, implies_true, and_true, true_and, Nat.le_refl, true_or, or_true, eq_self, List.length_cons, List.length_nil, Nat.reduceAdd, Nat.reduceLT, Nat.reduceLeDiff]
        exact st2 _ _ sa (by unfold shU; rw [if_pos k2]) _
      · have g3 : (nI j < nI p) = True := eq_true (w2.mpr k2)
        refine MW.run1 gd_X7_born [4] 34 ?_
        simp (disch := omega) only [↓EVk, ↓w_if_eq, ↓w_an_ite, ↓mEndK, ↓w_retK0, ↓w_fitK, ↓w_dupK, ↓w_dup2K, w_an_back, ↓EVd, ↓ft_X7_born, ↓reduceIte, ↓EV_obs, ↓EV_obn, ↓EV_ais, ↓EV_ain, ↓EV_ob h0, ↓EV_ai a16, mdF, mRun, List.mem_cons, List.not_mem_nil, or_false, mtab_eq, Nat.reduceEqDiff, Nat.zero_add, c1, c2, v1, v2, g1, f1, g2, g3, s2, mset2, b10, b00, not_true_eq_false, not_false_eq_true, true_implies, false_implies, implies_true, and_true, true_and, Nat.le_refl, true_or, or_true, eq_self, List.length_cons, List.length_nil, Nat.reduceAdd, Nat.reduceLT, Nat.reduceLeDiff]
        exact st2 _ _ sa (by unfold shU; rw [if_neg k2]) _
  · rintro L h' ⟨a', x4, rfl, hM', u1, u2, u3, hk⟩
    have h0 := hM'.1
    have a16 : h' (M + 16) = some (.inl (gC G 0, 10, .inl (a' 16))) := hM'.2 16 (by decide) (by decide)
    have f1 : (zI ((n : Int) - 1 - (n : Int)) < 0) = True := eq_true (by simp (disch := omega) only [z_nI, z_lit, z_neg, z_add, z_sub, z_mul, z_lt, z_le, z_eq, z_in, z_cl]; omega)
    have c1 : (nI p).toNatClampNeg = p := nI_clamp (by omega)
    have c2 : (nI p + 1).toNatClampNeg = p + 1 := by rw [nI_1]; exact nI_clamp (by omega)
    have v1 : vp_in (nI p) 10 := vp_in_nI (by omega) (by decide)
    have v2 : vp_in (nI p + 1) 10 := by rw [nI_1]; exact vp_in_nI (by omega) (by decide)
    refine MW.run1 gd_X7_born [4] 24 ?_
    simp (disch := omega) only [↓EVk, ↓w_if_eq, ↓w_an_ite, ↓mEndK, ↓w_retK0, ↓w_fitK, ↓w_dupK, ↓w_dup2K, w_an_back, ↓EVd, ↓ft_X7_born, ↓reduceIte, ↓EV_obs, ↓EV_obn, ↓EV_ais, ↓EV_ain, ↓EV_ob h0, ↓EV_ai a16, mdF, mRun, List.mem_cons, List.not_mem_nil, or_false, mtab_eq, Nat.reduceEqDiff, Nat.zero_add, f1, c1, c2, v1, v2, mset2, b10, b00, not_true_eq_false, not_false_eq_true, true_implies, false_implies, implies_true, and_true, true_and, Nat.le_refl, true_or, or_true, eq_self, List.length_cons, List.length_nil, Nat.reduceAdd, Nat.reduceLT, Nat.reduceLeDiff]
    refine hp _ _ (ModelC_a (k := 16) (f := upd (upd (a' 16) p (nI p + 1)) (p + 1) (nI p)) hM' (by decide) (by decide)) (fun y hy => ?_) (fun k hk => ?_) (fun z hz => by rw [mset_ne (by omega)]; exact hk z hz)
    · show upd (upd (a' 16) p (nI p + 1)) (p + 1) (nI p) y = nI (bornF mu p y)
      unfold bornF
      by_cases q1 : y < p
      · rw [if_pos q1, pk_un (by omega), pk_un (by omega)]
        have := u2 y (by omega) (by omega)
        rw [show shU p y = y by unfold shU; rw [if_neg (by omega)]] at this
        exact this
      rw [if_neg q1]
      by_cases q2 : y = p
      · rw [if_pos q2, q2, pk_un (by omega), pk_us, nI_1]
      rw [if_neg q2]
      by_cases q3 : y = p + 1
      · rw [if_pos q3, q3, pk_us]
      rw [if_neg q3, pk_un q3, pk_un q2]
      have := u2 (y - 2) (by omega) (by omega)
      rw [show shU p (y - 2) = y by unfold shU; rw [if_pos (by omega)]; omega] at this
      exact this
    · unfold aset
      rw [if_neg hk]
      exact u3 k hk
set_option maxRecDepth 10000 in
theorem m_dies {p n : Nat} {mu : Nat → Nat} {x y : Int32} (hM : ModelC h G M v a) (hI : MI mu (n + 2)) (hr : mtR a mu (n + 2)) (hp2 : p ≤ n) (hn : n + 2 ≤ 10) (hx : x = nI p) (hy : y = nI (n + 2))
    (hp0 : ¬ mu p = p + 1 → post (some (.int 0)) h)
    (hp : mu p = p + 1 → ∀ h' a', ModelC h' G M v a' → mtR a' (diesF mu p) n → (∀ k, k ≠ 16 → a' k = a k) → mKeep h h' M (M + 17) → post (some (.int 1)) h') : MC G MX7_dies d 0 0 [.ref M, .int x, .int y] h N post := by
  subst hx
  subst hy
  have h0 := hM.1
  have a16 : h (M + 16) = some (.inl (gC G 0, 10, .inl (a 16))) := hM.2 16 (by decide) (by decide)
  obtain ⟨p1, p2, p3⟩ := hI p (by omega)
  have e1 : a 16 p = nI (mu p) := hr p (by omega)
  have c1 : (nI p).toNatClampNeg = p := nI_clamp (by omega)
  have v1 : vp_in (nI p) 10 := vp_in_nI (by omega) (by decide)
  refine MC.of (L0 := [some (.ref M), some (.int (nI p)), some (.int (nI (n + 2))), none, none]) gd_X7_dies (Nat.le_of_ble_eq_true rfl) rfl (MW.run gd_X7_dies [16] 20 ?_)
  simp (disch := omega) only [↓EVi, ↓EVc, ↓ft_X7_dies, ↓reduceIte, ↓EV_obs, ↓EV_obn, ↓EV_ais, ↓EV_ain, ↓EV_ob h0, ↓EV_ai a16, mdF, mRun, List.mem_cons, List.not_mem_nil, or_false, mtab_eq, Nat.reduceEqDiff, Nat.zero_add, c1, v1, e1, mset2, b10, b00, not_true_eq_false, not_false_eq_true, true_implies, false_implies, implies_true, and_true, true_and, Nat.le_refl, true_or, or_true, eq_self, List.length_cons, List.length_nil, Nat.reduceAdd, Nat.reduceLT, Nat.reduceLeDiff]
  refine ⟨fun k1 => ?_, fun k1 => hp0 (fun z => k1 (by rw [z, nI_1]))⟩
  have k1' : mu p = p + 1 := by
    rw [nI_1] at k1
    exact (nI_eq (by omega) (by omega)).mp k1
  replace hp := hp k1'
  obtain ⟨-, nr⟩ := MI_dies hI hp2 k1'
  refine MW.upto (n + 2) (fun j L h' => ∃ a' x4, L = [some (.ref M), some (.int (nI p)), some (.int (nI (n + 2))), some (.int (nI j)), x4] ∧ ModelC h' G M v a' ∧ (∀ w, j ≤ w → w < n + 2 → a' 16 w = nI (mu w)) ∧ (∀ w, w < j → w ≠ p → w ≠ p + 1 → a' 16 (shD p w) = nI (shD p (mu w))) ∧ (∀ k, k ≠ 16 → a' k = a k) ∧ mKeep h h' M (M + 17)) ?_ ?_ 0 _ _ (Nat.zero_le _) ⟨a, none, rfl, hM, fun j _ hj => hr j hj, fun j hj => absurd hj (by omega), fun _ _ => rfl, mKeep_rfl⟩
  · rintro j L h' hj ⟨a', x4, rfl, hM', u1, u2, u3, hk⟩ ih
    have h0 := hM'.1
    have a16 : h' (M + 16) = some (.inl (gC G 0, 10, .inl (a' 16))) := hM'.2 16 (by decide) (by decide)
    obtain ⟨m1, m2, m3⟩ := hI j hj
    have g1 : a' 16 j = nI (mu j) := u1 j (Nat.le_refl _) hj
    have cj : (nI j).toNatClampNeg = j := nI_clamp (by omega)
    have vj : vp_in (nI j) 10 := vp_in_nI (by omega) (by decide)
    have f1 : (nI (n + 2) ≤ nI j) = False := eq_false (by simp (disch := omega) only [z_nI, z_lit, z_neg, z_add, z_sub, z_mul, z_lt, z_le, z_eq, z_in, z_cl]; omega)
    have w1 : (nI j < nI p) ↔ j < p := by simp (disch := omega) only [z_nI, z_lit, z_neg, z_add, z_sub, z_mul, z_lt, z_le, z_eq, z_in, z_cl]; omega
    have w2 : (nI j ≤ nI p + 1) ↔ j ≤ p + 1 := by simp (disch := omega) only [z_nI, z_lit, z_neg, z_add, z_sub, z_mul, z_lt, z_le, z_eq, z_in, z_cl]; omega
    have w3 : (nI j ≤ nI p) ↔ ¬ p < j := by simp (disch := omega) only [z_nI, z_lit, z_neg, z_add, z_sub, z_mul, z_lt, z_le, z_eq, z_in, z_cl]; omega
    have w4 : (nI (mu j) ≤ nI p) ↔ ¬ p < mu j := by simp (disch := omega) only [z_nI, z_lit, z_neg, z_add, z_sub, z_mul, z_lt, z_le, z_eq, z_in, z_cl]; omega
    by_cases sk : j = p ∨ j = p + 1
    · have g2 : (nI j < nI p) = False := eq_false (fun z => by have := w1.mp z; omega)
      have g3 : (nI j ≤ nI p + 1) = True := eq_true (w2.mpr (by omega))
      have nx := fun z4 => ih [some (.ref M), some (.int (nI p)), some (.int (nI (n + 2))), some (.int (nI (j + 1))), z4] h' ⟨a', z4, rfl, hM', fun w w1 w2 => u1 w (by omega) w2, fun w w1 w2 w3 => u2 w (by omega) w2 w3, u3, hk⟩
      clear ih
      refine MW.run1 gd_X7_dies [16] 24 ?_
      simp (disch := omega) only [↓EVk, ↓w_if_eq, ↓w_an_ite, ↓mEndK, ↓w_retK0, ↓w_fitK, ↓w_dupK, ↓w_dup2K, w_an_back, ↓EVd, ↓ft_X7_dies, ↓reduceIte, ↓EV_obs, ↓EV_obn, ↓EV_ais, ↓EV_ain, ↓EV_ob h0, mdF, mRun, List.mem_cons, List.not_mem_nil, or_false, mtab_eq, Nat.reduceEqDiff, Nat.zero_add, f1, g2, g3, mset2, b10, b00, not_true_eq_false, not_false_eq_true, true_implies, false_implies, implies_true, and_true, true_and, Nat.le_refl, true_or, or_true, eq_self, List.length_cons, List.length_nil, Nat.reduceAdd, Nat.reduceLT, Nat.reduceLeDiff]
      rw [nI_1]
      exact nx _
    have cm : (nI j - 2).toNatClampNeg = j - 2 := by
      by_cases q : 2 ≤ j
      · rw [show nI j - 2 = nI (j - 2) from pk_sub (b := 2) q]
        exact nI_clamp (by omega)
      · simp (disch := omega) only [z_nI, z_lit, z_neg, z_add, z_sub, z_mul, z_lt, z_le, z_eq, z_in, z_cl]
        omega
    have st2 : ∀ (A B : Nat), A = shD p (mu j) → B = shD p j → ∀ z4, MW G MX7_dies (mz G d 0 0 post) 16 [some (.ref M), some (.int (nI p)), some (.int (nI (n + 2))), some (.int (nI (j + 1))), z4] [] (mset h' (M + 16) (.inl (gC G 0, 10, .inl (upd (a' 16) B (nI A))))) (N, 0, 0) := by
      rintro A B rfl rfl z4
      have inj : ∀ w, w ≠ p → w ≠ p + 1 → shD p w = shD p j → w = j := by
        intro w n1 n2 e
        unfold shD at e
        split at e <;> split at e <;> omega
      refine ih _ _ ⟨_, z4, rfl, ModelC_a (k := 16) hM' (by decide) (by decide), fun w w1 w2 => ?_, fun w w1 w2 w3 => ?_, fun k hk => ?_, fun z hz => by rw [mset_ne (by omega)]; exact hk z hz⟩
      · show upd (a' 16) (shD p j) _ w = _
        have : w ≠ shD p j := by unfold shD; split <;> omega
        rw [pk_un this]
        exact u1 w (by omega) w2
      · show upd (a' 16) (shD p j) _ (shD p w) = _
        by_cases e : w = j
        · subst e
          exact pk_us
        · rw [pk_un (fun z => e (inj w w2 w3 z))]
          exact u2 w (by omega) w2 w3
      · unfold aset
        rw [if_neg hk]
        exact u3 k hk
    clear ih
    have nm : mu j ≠ p := by
      intro e
      rw [e, k1'] at m3
      omega
    have sm : p < mu j → nI (mu j) - 2 = nI (mu j - 2) := fun q => by
      by_cases q2 : 2 ≤ mu j
      · exact pk_sub (b := 2) q2
      · exfalso
        have : mu j = p + 1 := by omega
        have e3 : mu (p + 1) = p := by rw [← k1']; exact p3
        rw [this, e3] at m3
        omega
    by_cases k2 : j < p
    · have g2 : (nI j < nI p) = True := eq_true (w1.mpr k2)
      have g4 : (nI j ≤ nI p) = True := eq_true (w3.mpr (by omega))
      have sb : j = shD p j := by unfold shD; rw [if_neg (by omega)]
      by_cases k3 : p < mu j
      · have g5 : (nI (mu j) ≤ nI p) = False := eq_false (fun z => w4.mp z k3)
        have s2 := sm k3
        refine MW.run1 gd_X7_dies [16] 34 ?_
        simp (disch := omega) only [↓EVk, ↓w_if_eq, ↓w_an_ite, ↓mEndK, ↓w_retK0, ↓w_fitK, ↓w_dupK, ↓w_dup2K, w_an_back, ↓EVd, ↓ft_X7_dies, ↓reduceIte, ↓EV_obs, ↓EV_obn, ↓EV_ais, ↓EV_ain, ↓EV_ob h0, ↓EV_ai a16, mdF, mRun, List.mem_cons, List.not_mem_nil, or_false, mtab_eq, Nat.reduceEqDiff, Nat.zero_add, f1, g1, cj, vj, g2, g4, g5, s2, mset2, b10, b00, not_true_eq_false, not_false_eq_true, true_implies, false_implies, implies_true, and_true, true_and, Nat.le_refl, true_or, or_true, eq_self, List.length_cons, List.length_nil, Nat.reduceAdd, Nat.reduceLT, Nat.reduceLeDiff]
        rw [nI_1]
        exact st2 _ _ (by unfold shD; rw [if_pos k3]) sb _
      · have g5 : (nI (mu j) ≤ nI p) = True := eq_true (w4.mpr k3)
        refine MW.run1 gd_X7_dies [16] 34 ?_
        simp (disch := omega) only [↓EVk, ↓w_if_eq, ↓w_an_ite, ↓mEndK, ↓w_retK0, ↓w_fitK, ↓w_dupK, ↓w_dup2K, w_an_back, ↓EVd, ↓ft_X7_dies, ↓reduceIte, ↓EV_obs, ↓EV_obn, ↓EV_ais, ↓EV_ain, ↓EV_ob h0, ↓EV_ai a16, mdF, mRun, List.mem_cons, List.not_mem_nil, or_false, mtab_eq, Nat.reduceEqDiff, Nat.zero_add, f1, g1, cj, vj, g2, g4, g5, mset2, b10, b00, not_true_eq_false, not_false_eq_true, true_implies, false_implies, implies_true, and_true, true_and, Nat.le_refl, true_or, or_true, eq_self, List.length_cons, List.length_nil, Nat.reduceAdd, Nat.reduceLT, Nat.reduceLeDiff]
        rw [nI_1]
        exact st2 _ _ (by unfold shD; rw [if_neg k3]) sb _
    · have g2 : (nI j < nI p) = False := eq_false (fun z => k2 (w1.mp z))
      have g3 : (nI j ≤ nI p + 1) = False := eq_false (fun z => by have := w2.mp z; omega)
      have g4 : (nI j ≤ nI p) = False := eq_false (fun z => w3.mp z (by omega))
      have vm : vp_in (nI j - 2) 10 := by simp (disch := omega) only [z_nI, z_lit, z_neg, z_add, z_sub, z_mul, z_lt, z_le, z_eq, z_in, z_cl]; omega
      have sb : j - 2 = shD p j := by unfold shD; rw [if_pos (by omega)]
      by_cases k3 : p < mu j
      · have g5 : (nI (mu j) ≤ nI p) = False := eq_false (fun z => w4.mp z k3)
        have s2 := sm k3
        refine MW.run1 gd_X7_dies [16] 39 ?_
        simp (disch := omega) only [↓EVk, ↓w_if_eq, ↓w_an_ite, ↓mEndK, ↓w_retK0, ↓w_fitK, ↓w_dupK, ↓w_dup2K, w_an_back, ↓EVd, ↓ft_X7_dies, ↓reduceIte, ↓EV_obs, ↓EV_obn, ↓EV_ais, ↓EV_ain, ↓EV_ob h0, ↓EV_ai a16, mdF, mRun, List.mem_cons, List.not_mem_nil, or_false, mtab_eq, Nat.reduceEqDiff, Nat.zero_add, f1, g1, cj, vj, cm, vm, g2, g3, g4, g5, s2, mset2, b10, b00, not_true_eq_false, not_false_eq_true, true_implies, false_implies, implies_true, and_true, true_and, Nat.le_refl, true_or, or_true, eq_self, List.length_cons, List.length_nil, Nat.reduceAdd, Nat.reduceLT, Nat.reduceLeDiff]
        rw [nI_1]
        exact st2 _ _ (by unfold shD; rw [if_pos k3]) sb _
      · have g5 : (nI (mu j) ≤ nI p) = True := eq_true (w4.mpr k3)
        refine MW.run1 gd_X7_dies [16] 39 ?_
        simp (disch := omega) only [↓EVk, ↓w_if_eq, ↓w_an_ite, ↓mEndK, ↓w_retK0, ↓w_fitK, ↓w_dupK, ↓w_dup2K, w_an_back, ↓EVd, ↓ft_X7_dies, ↓reduceIte, ↓EV_obs, ↓EV_obn, ↓EV_ais, ↓EV_ain, ↓EV_ob h0, ↓EV_ai a16, mdF, mRun, List.mem_cons, List.not_mem_nil, or_false, mtab_eq, Nat.reduceEqDiff, Nat.zero_add, f1, g1, cj, vj, cm, vm, g2, g3, g4, g5, mset2, b10, b00, not_true_eq_false, not_false_eq_true, true_implies, false_implies, implies_true, and_true, true_and, Nat.le_refl, true_or, or_true, eq_self, List.length_cons, List.length_nil, Nat.reduceAdd, Nat.reduceLT, Nat.reduceLeDiff]
        rw [nI_1]
        exact st2 _ _ (by unfold shD; rw [if_neg k3]) sb _
  · rintro L h' ⟨a', x4, rfl, hM', u1, u2, u3, hk⟩
    have f1 : (nI (n + 2) ≤ nI (n + 2)) = True := eq_true (nI_le (Nat.le_refl _) (by omega))
    refine MW.run1 gd_X7_dies [16] 10 ?_
    simp (disch := omega) only [↓EVk, ↓w_if_eq, ↓w_an_ite, ↓mEndK, ↓w_retK0, ↓w_fitK, ↓w_dupK, ↓w_dup2K, w_an_back, ↓EVd, ↓ft_X7_dies, ↓reduceIte, ↓EV_obs, ↓EV_obn, ↓EV_ais, ↓EV_ain, mdF, mRun, List.mem_cons, List.not_mem_nil, or_false, mtab_eq, Nat.reduceEqDiff, Nat.zero_add, f1, mset2, b10, b00, not_true_eq_false, not_false_eq_true, true_implies, false_implies, implies_true, and_true, true_and, Nat.le_refl, true_or, or_true, eq_self, List.length_cons, List.length_nil, Nat.reduceAdd, Nat.reduceLT, Nat.reduceLeDiff]
    refine hp h' a' hM' (fun y hy => ?_) u3 hk
    unfold diesF
    by_cases q : y < p
    · rw [if_pos q]
      have := u2 y (by omega) (by omega) (by omega)
      rw [show shD p y = y by unfold shD; rw [if_neg (by omega)]] at this
      exact this
    · rw [if_neg q]
      have := u2 (y + 2) (by omega) (by omega) (by omega)
      rw [show shD p (y + 2) = y by unfold shD; rw [if_pos (by omega)]; omega] at this
      exact this
end GOS
