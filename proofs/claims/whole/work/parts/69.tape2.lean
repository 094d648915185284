/-! Tape: readToken, tellEvent, tell; feed and front -/
theorem TQ_eq {h h' : mH} {G : mG} {T : Nat} {tp : List Nat} {p k t x : Int32} (e : eqO h h' T (T + 1)) (q : TQ h G T tp p k t x) : TQ h' G T tp p k t x := by
  obtain ⟨⟨Bt, ⟨t0, t1⟩, t2⟩, t3, t4⟩ := q
  exact ⟨⟨Bt, ⟨by rw [e T (by omega) (by omega)]; exact t0, by rw [e (T + 1) (by omega) (by omega)]; exact t1⟩, t2⟩, t3, t4⟩
theorem tokQ_eq {h h' : mH} {G : mG} {T p : Nat} {tp : List Nat} (e : eqO h h' T (T + 1)) (q : tokQ h G T tp p) : tokQ h' G T tp p := by
  obtain ⟨a, x, hq, hz⟩ := q
  exact ⟨a, x, TQ_eq e hq, hz⟩
section TPS
variable {G : mG} {d N T F : Nat} {tp : List Nat} {h : mH} {post : Option Value → mH → Prop}
set_option maxRecDepth 10000 in
theorem t_readToken {p0 : Nat} {k t x : Int32} (hd : 5 ≤ d) (hRL : RLs G) (hT : TQ h G T tp (nI p0) k t x) (hp0 : p0 ≤ tp.length) (hp : ∀ h', tokQ h' G T tp (skp tp p0) → mKeep h h' T (T + 1) → post none h') : MC G MX4_readToken d 0 0 [.ref T] h N post := by
  have hd1 : 1 ≤ d := by omega
  have h120 := hT.2.1
  have h256 := hT.2.2
  refine MC.of (L0 := [some (.ref T)]) gd_X4_readToken (Nat.le_of_ble_eq_true rfl) rfl ?_
  refine MW.rept (fun n L h' => ∃ p, L = [some (.ref T)] ∧ TQ h' G T tp (nI p) k t x ∧ n = tp.length - p ∧ p ≤ tp.length ∧ skp tp p0 = skp tp p ∧ mKeep h h' T (T + 1)) ?_ (tp.length - p0) _ _ ⟨p0, rfl, hT, rfl, hp0, rfl, mKeep_rfl⟩
  rintro n L h' ⟨p, rfl, hTp, hn, hpl, hsk, hk⟩ ih
  obtain ⟨⟨Bt, ⟨q0, q1⟩, q2⟩, -, -⟩ := id hTp
  -- behind the spaces
  have out : ¬ (p < tp.length ∧ tp.getD p 0 = 32) → MW G MX4_readToken (mz G d 0 0 post) 38 [some (.ref T)] [] h' (N, 0, 0) := by
    intro z
    have hsp : skp tp p0 = p := by rw [hsk, skp_out z]
    rw [hsp] at hp
    by_cases cl : p < tp.length
    · have f1 : (nI p < nI tp.length) = True := eq_true (by simp (disch := omega) only [z_nI, z_lit, z_neg, z_add, z_sub, z_mul, z_lt, z_le, z_eq, z_in, z_cl]; omega)
      have hT2 : TQ (mset h' T (.inr (4, [.ref (T + 1), .int (nI tp.length), .int (nI p), .int k, .int (nI p), .int x]))) G T tp (nI p) k (nI p) x := ⟨⟨Bt, ⟨mset_same, by rw [mset_ne (by omega)]; exact q1⟩, q2⟩, h120, h256⟩
      have hk2 : mKeep h (mset h' T (.inr (4, [.ref (T + 1), .int (nI tp.length), .int (nI p), .int k, .int (nI p), .int x]))) T (T + 1) := fun z hz => by rw [mset_ne (by omega)]; exact hk z hz
      refine MW.run1 gd_X4_readToken [] 30 ?_
      simp (disch := omega) only [↓EVk, ↓w_if_eq, ↓w_an_ite, ↓mEndK, ↓w_retK0, ↓w_fitK, ↓w_dupK, ↓w_dup2K, w_an_back, ↓EVd, ↓ft_X4_readToken, ↓reduceIte, ↓EV_obs, ↓EV_obn, ↓EV_ais, ↓EV_ain, ↓EV_ob q0, mdF, mRun, List.mem_cons, List.not_mem_nil, or_false, mtab_eq, Nat.reduceEqDiff, Nat.zero_add, f1, hd1, mset2, b10, b00, not_true_eq_false, not_false_eq_true, true_implies, false_implies, implies_true, and_true, true_and, Nat.le_refl, true_or, or_true, eq_self, List.length_cons, List.length_nil, Nat.reduceAdd, Nat.reduceLT, Nat.reduceLeDiff]
      refine t_isFigure hT2 cl ?_
      by_cases cd : dig tp p
      · rw [if_pos cd]
        simp (disch := omega) only [↓EVk, ↓w_if_eq, ↓w_an_ite, ↓mEndK, ↓w_retK0, ↓w_fitK, ↓w_dupK, ↓w_dup2K, w_an_back, ↓EVd, ↓ft_X4_readToken, ↓reduceIte, ↓EV_obs, ↓EV_obn, ↓EV_ais, ↓EV_ain, mdF, mRun, List.mem_cons, List.not_mem_nil, or_false, mtab_eq, Nat.reduceEqDiff, Nat.zero_add, hd1, mset2, b10, b00, not_true_eq_false, not_false_eq_true, true_implies, false_implies, implies_true, and_true, true_and, Nat.le_refl, true_or, or_true, eq_self, List.length_cons, List.length_nil, Nat.reduceAdd, Nat.reduceLT, Nat.reduceLeDiff]
        refine t_readNumber (by omega) hT2 cd (fun h3 q k' x' hT3 e1 e2 hk3 => ?_)
        simp (disch := omega) only [↓EVk, ↓w_if_eq, ↓w_an_ite, ↓mEndK, ↓w_retK0, ↓w_fitK, ↓w_dupK, ↓w_dup2K, w_an_back, ↓EVd, ↓ft_X4_readToken, ↓reduceIte, ↓EV_obs, ↓EV_obn, ↓EV_ais, ↓EV_ain, mdF, mRun, List.mem_cons, List.not_mem_nil, or_false, mtab_eq, Nat.reduceEqDiff, Nat.zero_add, hd1, mset2, b10, b00, not_true_eq_false, not_false_eq_true, true_implies, false_implies, implies_true, and_true, true_and, Nat.le_refl, true_or, or_true, eq_self, List.length_cons, List.length_nil, Nat.reduceAdd, Nat.reduceLT, Nat.reduceLeDiff]
        subst e1
        refine hp h3 ⟨q, x', hT3, fun y => e2 ?_⟩ (mKeep_trans hk2 hk3)
        rcases y with y | y
        · exfalso
          revert y
          unfold tokR
          rw [if_pos cd.1, if_neg (by omega), if_neg (by omega), if_neg (by omega), if_pos cd]
          split
          · split
            · exact fun z => by cases z
            · exact fun z => by cases z
          · exact fun z => by cases z
        · exact y
      · rw [if_neg cd]
        simp (disch := omega) only [↓EVk, ↓w_if_eq, ↓w_an_ite, ↓mEndK, ↓w_retK0, ↓w_fitK, ↓w_dupK, ↓w_dup2K, w_an_back, ↓EVd, ↓ft_X4_readToken, ↓reduceIte, ↓EV_obs, ↓EV_obn, ↓EV_ais, ↓EV_ain, mdF, mRun, List.mem_cons, List.not_mem_nil, or_false, mtab_eq, Nat.reduceEqDiff, Nat.zero_add, hd1, mset2, b10, b00, not_true_eq_false, not_false_eq_true, true_implies, false_implies, implies_true, and_true, true_and, Nat.le_refl, true_or, or_true, eq_self, List.length_cons, List.length_nil, Nat.reduceAdd, Nat.reduceLT, Nat.reduceLeDiff]
        refine hRL (d - 1) N T p tp k (nI p) x _ _ (by omega) hT2 cl cd (fun h3 q k' x' hT3 e1 e2 hk3 => ?_)
        simp (disch := omega) only [↓EVk, ↓w_if_eq, ↓w_an_ite, ↓mEndK, ↓w_retK0, ↓w_fitK, ↓w_dupK, ↓w_dup2K, w_an_back, ↓EVd, ↓ft_X4_readToken, ↓reduceIte, ↓EV_obs, ↓EV_obn, ↓EV_ais, ↓EV_ain, mdF, mRun, List.mem_cons, List.not_mem_nil, or_false, mtab_eq, Nat.reduceEqDiff, Nat.zero_add, hd1, mset2, b10, b00, not_true_eq_false, not_false_eq_true, true_implies, false_implies, implies_true, and_true, true_and, Nat.le_refl, true_or, or_true, eq_self, List.length_cons, List.length_nil, Nat.reduceAdd, Nat.reduceLT, Nat.reduceLeDiff]
        subst e1
        refine hp h3 ⟨q, x', hT3, fun y => e2 ?_⟩ (mKeep_trans hk2 hk3)
        rcases y with y | y
        · exact y
        · exfalso
          revert y
          unfold tokR
          rw [if_pos cl]
          split
          · exact fun z => by cases z
          split
          · exact fun z => by cases z
          split
          · exact fun z => by cases z
          exact fun z => by cases z
    · have f1 : (nI p < nI tp.length) = False := eq_false (by simp (disch := omega) only [z_nI, z_lit, z_neg, z_add, z_sub, z_mul, z_lt, z_le, z_eq, z_in, z_cl]; omega)
      have et : tokR tp p = (0, 0, p) := by unfold tokR; rw [if_neg cl]
      refine MW.run1 gd_X4_readToken [] 30 ?_
      simp (disch := omega) only [↓EVk, ↓w_if_eq, ↓w_an_ite, ↓mEndK, ↓w_retK0, ↓w_fitK, ↓w_dupK, ↓w_dup2K, w_an_back, ↓EVd, ↓ft_X4_readToken, ↓reduceIte, ↓EV_obs, ↓EV_obn, ↓EV_ais, ↓EV_ain, ↓EV_ob q0, mdF, mRun, List.mem_cons, List.not_mem_nil, or_false, mtab_eq, Nat.reduceEqDiff, Nat.zero_add, f1, mset2, b10, b00, not_true_eq_false, not_false_eq_true, true_implies, false_implies, implies_true, and_true, true_and, Nat.le_refl, true_or, or_true, eq_self, List.length_cons, List.length_nil, Nat.reduceAdd, Nat.reduceLT, Nat.reduceLeDiff]
      refine hp _ ⟨nI p, x, ⟨⟨Bt, ⟨?_, by rw [mset_ne (by omega)]; exact q1⟩, q2⟩, h120, h256⟩, fun y => by rw [et] at y; rcases y with y | y <;> cases y⟩ (fun z hz => by rw [mset_ne (by omega)]; exact hk z hz)
      rw [mset_same, et]
      rfl
  by_cases cl : p < tp.length
  case neg =>
    have f1 : (nI tp.length ≤ nI p) = True := eq_true (by simp (disch := omega) only [z_nI, z_lit, z_neg, z_add, z_sub, z_mul, z_lt, z_le, z_eq, z_in, z_cl]; omega)
    refine MW.run1 gd_X4_readToken [0, 38] 10 ?_
    simp (disch := omega) only [↓EVk, ↓w_if_eq, ↓w_an_ite, ↓mEndK, ↓w_retK0, ↓w_fitK, ↓w_dupK, ↓w_dup2K, w_an_back, ↓EVd, ↓ft_X4_readToken, ↓reduceIte, ↓EV_obs, ↓EV_obn, ↓EV_ais, ↓EV_ain, ↓EV_ob q0, mdF, mRun, List.mem_cons, List.not_mem_nil, or_false, mtab_eq, Nat.reduceEqDiff, Nat.zero_add, f1, mset2, b10, b00, not_true_eq_false, not_false_eq_true, true_implies, false_implies, implies_true, and_true, true_and, Nat.le_refl, true_or, or_true, eq_self, List.length_cons, List.length_nil, Nat.reduceAdd, Nat.reduceLT, Nat.reduceLeDiff]
    exact out (fun y => cl y.1)
  have f1 : (nI tp.length ≤ nI p) = False := eq_false (by simp (disch := omega) only [z_nI, z_lit, z_neg, z_add, z_sub, z_mul, z_lt, z_le, z_eq, z_in, z_cl]; omega)
  have cb : (nI p).toNatClampNeg = p := nI_clamp (by omega)
  have vb : vp_in (nI p) 120 := vp_in_nI (by omega) (by decide)
  have eb := q2 p cl
  have e32 : (sgn8 (tp.getD p 0) = 32) ↔ tp.getD p 0 = 32 := sgn8_small (h256 p cl) (by decide)
  by_cases cs : tp.getD p 0 = 32
  · have f2 : (sgn8 (tp.getD p 0) = 32) = True := eq_true (e32.mpr cs)
    refine MW.run1 gd_X4_readToken [0, 38] 20 ?_
    simp (disch := omega) only [↓EVk, ↓w_if_eq, ↓w_an_ite, ↓mEndK, ↓w_retK0, ↓w_fitK, ↓w_dupK, ↓w_dup2K, w_an_back, ↓EVd, ↓ft_X4_readToken, ↓reduceIte, ↓EV_obs, ↓EV_obn, ↓EV_ais, ↓EV_ain, ↓EV_ob q0, ↓EV_ai q1, mdF, mRun, List.mem_cons, List.not_mem_nil, or_false, mtab_eq, Nat.reduceEqDiff, Nat.zero_add, f1, cb, vb, eb, f2, mset2, b10, b00, not_true_eq_false, not_false_eq_true, true_implies, false_implies, implies_true, and_true, true_and, Nat.le_refl, true_or, or_true, eq_self, List.length_cons, List.length_nil, Nat.reduceAdd, Nat.reduceLT, Nat.reduceLeDiff]
    rw [nI_1]
    exact ih (tp.length - (p + 1)) _ _ (by omega) ⟨p + 1, rfl, ⟨⟨Bt, ⟨mset_same, by rw [mset_ne (by omega)]; exact q1⟩, q2⟩, h120, h256⟩, rfl, by omega, by rw [hsk, skp_in cl cs], fun z hz => by rw [mset_ne (by omega)]; exact hk z hz⟩
  · have f2 : (sgn8 (tp.getD p 0) = 32) = False := eq_false (fun z => cs (e32.mp z))
    refine MW.run1 gd_X4_readToken [0, 38] 20 ?_
    simp (disch := omega) only [↓EVk, ↓w_if_eq, ↓w_an_ite, ↓mEndK, ↓w_retK0, ↓w_fitK, ↓w_dupK, ↓w_dup2K, w_an_back, ↓EVd, ↓ft_X4_readToken, ↓reduceIte, ↓EV_obs, ↓EV_obn, ↓EV_ais, ↓EV_ain, ↓EV_ob q0, ↓EV_ai q1, mdF, mRun, List.mem_cons, List.not_mem_nil, or_false, mtab_eq, Nat.reduceEqDiff, Nat.zero_add, f1, cb, vb, eb, f2, mset2, b10, b00, not_true_eq_false, not_false_eq_true, true_implies, false_implies, implies_true, and_true, true_and, Nat.le_refl, true_or, or_true, eq_self, List.length_cons, List.length_nil, Nat.reduceAdd, Nat.reduceLT, Nat.reduceLeDiff]
    exact out (fun y => cs y.2)
theorem fRoomL {es : List Ev} {A : Nat → Int32} {k : Nat} (hv : vld es) (hA : A es.length = nI (ahL es)) (hk : k ≤ 2) : fRoom A (nI es.length) (nI (crs es)) (nI k) = if roomL es k then 1 else 0 := by
  have b := vld_bd hv
  have r01 : fRoom A (nI es.length) (nI (crs es)) (nI k) = 0 ∨ fRoom A (nI es.length) (nI (crs es)) (nI k) = 1 := by unfold fRoom; (repeat' split) <;> first | exact Or.inl rfl | exact Or.inr rfl
  have key := fRoom_1 (A := A) (l := es.length) (x := crs es) (k := k) (a := ahL es) (by rw [nI_clamp (by omega)]; exact hA) b.2.1 b.1 b.2.2 hk
  by_cases c : roomL es k
  · rw [if_pos c]
    exact key.mpr c
  · rw [if_neg c]
    exact r01.resolve_right (fun z => c (key.mp z))
set_option maxRecDepth 10000 in
theorem t_tellEvent {p : Nat} {es : List Ev} (hd : 6 ≤ d) (hTF : T + 1 < F ∨ F + 3 < T) (hRL : RLs G) (hQ : tokQ h G T tp p) (hpl : p ≤ tp.length) (hn0 : (tokR tp p).1 ≠ 0) (hF : FrontR h G F es)
    (hpA : (tokR tp p).1 ≠ 1 → post (some (.int (if (tokR tp p).1 = 3 then 1 else 2))) h)
    (hpB : (tokR tp p).1 = 1 → ¬ roomL es (tokR tp p).2.1 → post (some (.int 4)) h)
    (hpC : (tokR tp p).1 = 1 → roomL es (tokR tp p).2.1 → (tokR tp (skp tp (tokR tp p).2.2)).1 ≠ 2 → ∀ h', tokQ h' G T tp (skp tp (tokR tp p).2.2) → FrontR h' G F es → mKeep h h' T (T + 1) → post (some (.int (if (tokR tp (skp tp (tokR tp p).2.2)).1 = 3 then 1 else 2))) h')
    (hpD : (tokR tp p).1 = 1 → roomL es (tokR tp p).2.1 → (tokR tp (skp tp (tokR tp p).2.2)).1 = 2 → ¬ okEv es (tokR tp p).2.1 (tokR tp (skp tp (tokR tp p).2.2)).2.1 → ∀ h', tokQ h' G T tp (skp tp (tokR tp p).2.2) → FrontR h' G F es → mKeep h h' T (T + 1) → post (some (.int 3)) h')
    (hpE : (tokR tp p).1 = 1 → roomL es (tokR tp p).2.1 → (tokR tp (skp tp (tokR tp p).2.2)).1 = 2 → okEv es (tokR tp p).2.1 (tokR tp (skp tp (tokR tp p).2.2)).2.1 → ∀ h1 h', tokQ h' G T tp (skp tp (tokR tp p).2.2) → FrontR h' G F (es ++ [((tokR tp p).2.1, (tokR tp (skp tp (tokR tp p).2.2)).2.1)]) → mKeep h h1 T (T + 1) → mKeep h1 h' F (F + 3) → post (some (.int 0)) h') : MC G MX4_tellEvent d 0 0 [.ref T, .ref F] h N post := by
  have hd1 : 1 ≤ d := by omega
  obtain ⟨q, x, hT, hqx⟩ := id hQ
  have tf := tokR_f hpl
  obtain ⟨⟨Bt, ⟨t0, t1⟩, t2⟩, t3, t4⟩ := id hT
  refine MC.of (L0 := [some (.ref T), some (.ref F), none]) gd_X4_tellEvent (Nat.le_of_ble_eq_true rfl) rfl (MW.run gd_X4_tellEvent [] 40 ?_)
  have ck1 : ∀ s, s ≤ 3 → ((nI (ckS s) = 1) ↔ s = 1) := by
    intro s hs
    rcases (by omega : s = 0 ∨ s = 1 ∨ s = 2 ∨ s = 3) with rfl | rfl | rfl | rfl <;> decide
  have ck2 : ∀ s, s ≤ 3 → ((nI (ckS s) = 2) ↔ s = 2) := by
    intro s hs
    rcases (by omega : s = 0 ∨ s = 1 ∨ s = 2 ∨ s = 3) with rfl | rfl | rfl | rfl <;> decide
  by_cases c1 : (tokR tp p).1 = 1
  case neg =>
    have f1 : (nI (ckS (tokR tp p).1) = 1) = False := eq_false (fun z => c1 ((ck1 _ tf.1).mp z))
    simp (disch := omega) only [↓EVk, ↓w_if_eq, ↓w_an_ite, ↓mEndK, ↓w_retK0, ↓w_fitK, ↓w_dupK, ↓w_dup2K, w_an_back, ↓EVd, ↓ft_X4_tellEvent, ↓reduceIte, ↓EV_obs, ↓EV_obn, ↓EV_ais, ↓EV_ain, ↓EV_ob t0, mdF, mRun, List.mem_cons, List.not_mem_nil, or_false, mtab_eq, Nat.reduceEqDiff, Nat.zero_add, f1, hd1, mset2, b10, b00, not_true_eq_false, not_false_eq_true, true_implies, false_implies, implies_true, and_true, true_and, Nat.le_refl, true_or, or_true, eq_self, List.length_cons, List.length_nil, Nat.reduceAdd, Nat.reduceLT, Nat.reduceLeDiff]
    refine t_misplaced tf.1 hT ?_
    simp (disch := omega) only [↓EVk, ↓w_if_eq, ↓w_an_ite, ↓mEndK, ↓w_retK0, ↓w_fitK, ↓w_dupK, ↓w_dup2K, w_an_back, ↓EVd, ↓ft_X4_tellEvent, ↓reduceIte, ↓EV_obs, ↓EV_obn, ↓EV_ais, ↓EV_ain, mdF, mRun, List.mem_cons, List.not_mem_nil, or_false, mtab_eq, Nat.reduceEqDiff, Nat.zero_add, mset2, b10, b00, not_true_eq_false, not_false_eq_true, true_implies, false_implies, implies_true, and_true, true_and, Nat.le_refl, true_or, or_true, eq_self, List.length_cons, List.length_nil, Nat.reduceAdd, Nat.reduceLT, Nat.reduceLeDiff]
    exact hpA c1
  have f1 : (nI (ckS (tokR tp p).1) = 1) = True := eq_true ((ck1 _ tf.1).mpr c1)
  obtain ⟨rfl, rfl⟩ := hqx (Or.inl c1)
  have k2 := tf.2.2.2 c1
  obtain ⟨hv, K, P, A, hC, hKP, hA⟩ := id hF
  have b := vld_bd hv
  have fr0 := hC.1
  simp (disch := omega) only [↓EVk, ↓w_if_eq, ↓w_an_ite, ↓mEndK, ↓w_retK0, ↓w_fitK, ↓w_dupK, ↓w_dup2K, w_an_back, ↓EVd, ↓ft_X4_tellEvent, ↓reduceIte, ↓EV_obs, ↓EV_obn, ↓EV_ais, ↓EV_ain, ↓EV_ob t0, ↓EV_ob fr0, mdF, mRun, List.mem_cons, List.not_mem_nil, or_false, mtab_eq, Nat.reduceEqDiff, Nat.zero_add, f1, hd1, mset2, b10, b00, not_true_eq_false, not_false_eq_true, true_implies, false_implies, implies_true, and_true, true_and, Nat.le_refl, true_or, or_true, eq_self, List.length_cons, List.length_nil, Nat.reduceAdd, Nat.reduceLT, Nat.reduceLeDiff]
  refine t_hasRoomFor hC (vp_in_nI (by omega) (by decide)) ?_
  rw [fRoomL hv (by rw [hA _ (Nat.le_refl _), List.take_length]) k2]
  by_cases cr : roomL es (tokR tp p).2.1
  case neg =>
    rw [if_neg cr]
    simp (disch := omega) only [↓EVk, ↓w_if_eq, ↓w_an_ite, ↓mEndK, ↓w_retK0, ↓w_fitK, ↓w_dupK, ↓w_dup2K, w_an_back, ↓EVd, ↓ft_X4_tellEvent, ↓reduceIte, ↓EV_obs, ↓EV_obn, ↓EV_ais, ↓EV_ain, ↓EV_ob t0, ↓EV_ob fr0, mdF, mRun, List.mem_cons, List.not_mem_nil, or_false, mtab_eq, Nat.reduceEqDiff, Nat.zero_add, hd1, mset2, b10, b00, not_true_eq_false, not_false_eq_true, true_implies, false_implies, implies_true, and_true, true_and, Nat.le_refl, true_or, or_true, eq_self, List.length_cons, List.length_nil, Nat.reduceAdd, Nat.reduceLT, Nat.reduceLeDiff]
    exact hpB c1 cr
  rw [if_pos cr]
  simp (disch := omega) only [↓EVk, ↓w_if_eq, ↓w_an_ite, ↓mEndK, ↓w_retK0, ↓w_fitK, ↓w_dupK, ↓w_dup2K, w_an_back, ↓EVd, ↓ft_X4_tellEvent, ↓reduceIte, ↓EV_obs, ↓EV_obn, ↓EV_ais, ↓EV_ain, ↓EV_ob t0, ↓EV_ob fr0, mdF, mRun, List.mem_cons, List.not_mem_nil, or_false, mtab_eq, Nat.reduceEqDiff, Nat.zero_add, hd1, mset2, b10, b00, not_true_eq_false, not_false_eq_true, true_implies, false_implies, implies_true, and_true, true_and, Nat.le_refl, true_or, or_true, eq_self, List.length_cons, List.length_nil, Nat.reduceAdd, Nat.reduceLT, Nat.reduceLeDiff]
  refine t_readToken (by omega) hRL hT tf.2.1 (fun h1 hQ1 hk1 => ?_)
  have hF1 := FrontR_keep hF hk1 (by omega)
  have tf2 := tokR_f (skp_le (T := tp) tf.2.1)
  obtain ⟨q1, x1, hT1, hqx1⟩ := id hQ1
  obtain ⟨⟨Bt1, ⟨u0, u1⟩, u2⟩, -, -⟩ := id hT1
  by_cases c2 : (tokR tp (skp tp (tokR tp p).2.2)).1 = 2
  case neg =>
    have f2 : (nI (ckS (tokR tp (skp tp (tokR tp p).2.2)).1) = 2) = False := eq_false (fun z => c2 ((ck2 _ tf2.1).mp z))
    simp (disch := omega) only [↓EVk, ↓w_if_eq, ↓w_an_ite, ↓mEndK, ↓w_retK0, ↓w_fitK, ↓w_dupK, ↓w_dup2K, w_an_back, ↓EVd, ↓ft_X4_tellEvent, ↓reduceIte, ↓EV_obs, ↓EV_obn, ↓EV_ais, ↓EV_ain, ↓EV_ob u0, mdF, mRun, List.mem_cons, List.not_mem_nil, or_false, mtab_eq, Nat.reduceEqDiff, Nat.zero_add, f2, hd1, mset2, b10, b00, not_true_eq_false, not_false_eq_true, true_implies, false_implies, implies_true, and_true, true_and, Nat.le_refl, true_or, or_true, eq_self, List.length_cons, List.length_nil, Nat.reduceAdd, Nat.reduceLT, Nat.reduceLeDiff]
    refine t_misplaced tf2.1 hT1 ?_
    simp (disch := omega) only [↓EVk, ↓w_if_eq, ↓w_an_ite, ↓mEndK, ↓w_retK0, ↓w_fitK, ↓w_dupK, ↓w_dup2K, w_an_back, ↓EVd, ↓ft_X4_tellEvent, ↓reduceIte, ↓EV_obs, ↓EV_obn, ↓EV_ais, ↓EV_ain, mdF, mRun, List.mem_cons, List.not_mem_nil, or_false, mtab_eq, Nat.reduceEqDiff, Nat.zero_add, mset2, b10, b00, not_true_eq_false, not_false_eq_true, true_implies, false_implies, implies_true, and_true, true_and, Nat.le_refl, true_or, or_true, eq_self, List.length_cons, List.length_nil, Nat.reduceAdd, Nat.reduceLT, Nat.reduceLeDiff]
    exact hpC c1 cr c2 h1 hQ1 hF1 hk1
  have f2 : (nI (ckS (tokR tp (skp tp (tokR tp p).2.2)).1) = 2) = True := eq_true ((ck2 _ tf2.1).mpr c2)
  obtain ⟨rfl, rfl⟩ := hqx1 (Or.inr c2)
  obtain ⟨-, K1, P1, A1, ⟨fr1, -⟩, -⟩ := id hF1
  simp (disch := omega) only [↓EVk, ↓w_if_eq, ↓w_an_ite, ↓mEndK, ↓w_retK0, ↓w_fitK, ↓w_dupK, ↓w_dup2K, w_an_back, ↓EVd, ↓ft_X4_tellEvent, ↓reduceIte, ↓EV_obs, ↓EV_obn, ↓EV_ais, ↓EV_ain, ↓EV_ob u0, ↓EV_ob fr1, mdF, mRun, List.mem_cons, List.not_mem_nil, or_false, mtab_eq, Nat.reduceEqDiff, Nat.zero_add, f2, hd1, mset2, b10, b00, not_true_eq_false, not_false_eq_true, true_implies, false_implies, implies_true, and_true, true_and, Nat.le_refl, true_or, or_true, eq_self, List.length_cons, List.length_nil, Nat.reduceAdd, Nat.reduceLT, Nat.reduceLeDiff]
  refine c_append hF1 (by omega) (fun no => ?_) (fun k' p' e3 e4 ok h2 hF2 hk2 => ?_)
  · simp (disch := omega) only [↓EVk, ↓w_if_eq, ↓w_an_ite, ↓mEndK, ↓w_retK0, ↓w_fitK, ↓w_dupK, ↓w_dup2K, w_an_back, ↓EVd, ↓ft_X4_tellEvent, ↓reduceIte, ↓EV_obs, ↓EV_obn, ↓EV_ais, ↓EV_ain, mdF, mRun, List.mem_cons, List.not_mem_nil, or_false, mtab_eq, Nat.reduceEqDiff, Nat.zero_add, mset2, b10, b00, not_true_eq_false, not_false_eq_true, true_implies, false_implies, implies_true, and_true, true_and, Nat.le_refl, true_or, or_true, eq_self, List.length_cons, List.length_nil, Nat.reduceAdd, Nat.reduceLT, Nat.reduceLeDiff]
    exact hpD c1 cr c2 (fun z => no ⟨_, _, rfl, rfl, z⟩) h1 hQ1 hF1 hk1
  · obtain ⟨r1, r2⟩ := okEv_unique e3 e4 rfl rfl ok (by omega) (by omega) b.2.1
    subst r1
    subst r2
    simp (disch := omega) only [↓EVk, ↓w_if_eq, ↓w_an_ite, ↓mEndK, ↓w_retK0, ↓w_fitK, ↓w_dupK, ↓w_dup2K, w_an_back, ↓EVd, ↓ft_X4_tellEvent, ↓reduceIte, ↓EV_obs, ↓EV_obn, ↓EV_ais, ↓EV_ain, mdF, mRun, List.mem_cons, List.not_mem_nil, or_false, mtab_eq, Nat.reduceEqDiff, Nat.zero_add, mset2, b10, b00, not_true_eq_false, not_false_eq_true, true_implies, false_implies, implies_true, and_true, true_and, Nat.le_refl, true_or, or_true, eq_self, List.length_cons, List.length_nil, Nat.reduceAdd, Nat.reduceLT, Nat.reduceLeDiff]
    exact hpE c1 cr c2 ok h1 h2 (tokQ_eq (eqO_of hk2 (by omega)) hQ1) hF2 hk1 hk2
end TPS
