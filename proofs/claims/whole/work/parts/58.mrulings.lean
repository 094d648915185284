/-! the model: rulings, first -/
noncomputable def rOk (es : List Ev) (sort s : Nat) : Bool := rk es (mayF es sort) es.length 0 (fun _ => 0) (bitsL (crs es) s)
abbrev rWant (es : List Ev) (sort : Nat) (n : Int32) (s : Nat) : Prop := rOk es sort s = true ∧ (n = -1 ∨ nI (cT (bitsL (crs es) s)) = n)
noncomputable def rcM (es : List Ev) (sort : Nat) (n : Int32) : Nat → Nat
  | 0 => 0
  | s + 1 => rcM es sort n s + (if rWant es sort n s then 1 else 0)
/-- the first row of choices that makes a ruling, from s on -/
noncomputable def fsM (es : List Ev) (sort : Nat) : Nat → Nat → Option Nat
  | 0, _ => none
  | k + 1, s => if rOk es sort s = true then some s else fsM es sort k (s + 1)
noncomputable def aRulings (f so n : Int32) (S : AS) : Int32 × AS := (if isF S f ∧ (0 ≤ so ∧ so ≤ 2) ∧ -1 ≤ n then (if so = 2 ∧ 1 < nP (fr S f) then -2 else nI (rcM (fr S f) so.toNatClampNeg n (2 ^ crs (fr S f)))) else -1, S)
noncomputable def aFirst (f so i : Int32) (S : AS) : Int32 × AS := (if isF S f ∧ (0 ≤ so ∧ so ≤ 2) ∧ (0 ≤ i ∧ i < nI (crs (fr S f))) then (if so = 2 ∧ 1 < nP (fr S f) then -2 else match fsM (fr S f) so.toNatClampNeg (2 ^ crs (fr S f)) 0 with
    | none => -4
    | some s => if bitL (crs (fr S f)) s i.toNatClampNeg = true then 1 else 0) else -1, S)
theorem two12 {n : Nat} (h : n ≤ 12) : 2 ^ n ≤ 4096 := by
  have := Nat.pow_le_pow_right (n := 2) (by decide) h
  simpa using this
section GOS
variable {G : mG} {d N M : Nat} {S : AS} {h : mH} {post : Option Value → mH → Prop}
set_option maxRecDepth 10000 in
theorem M_rulings {f so n : Int32} (hd : 4 ≤ d) (hI : SInv S) (hR : MR h G M S) (hp : ∀ h', MR h' G M (aRulings f so n S).2 → mKeep h h' M (M + 17) → post (some (.int (aRulings f so n S).1)) h') : MC G MX7_rulings d 0 0 [.ref M, .int f, .int so, .int n] h N post := by
  have hR0 := hR
  have h8 := hI.1
  have hd1 : 1 ≤ d := by omega
  obtain ⟨v, a, hM, hL⟩ := hR
  have h0 := hM.1
  unfold aRulings at hp
  refine MC.of (L0 := [some (.ref M), some (.int f), some (.int so), some (.int n), none, none, none, none]) gd_X7_rulings (Nat.le_of_ble_eq_true rfl) rfl (MW.run gd_X7_rulings [48, 67] 40 ?_)
  simp (disch := omega) only [↓EVi, ↓EVc, ↓ft_X7_rulings, ↓reduceIte, ↓EV_obs, ↓EV_obn, ↓EV_ais, ↓EV_ain, ↓EV_ob h0, mdF, mRun, List.mem_cons, List.not_mem_nil, or_false, mtab_eq, Nat.reduceEqDiff, Nat.zero_add, hd1, mset2, b10, b00, not_true_eq_false, not_false_eq_true, true_implies, false_implies, implies_true, and_true, true_and, Nat.le_refl, true_or, or_true, eq_self, List.length_cons, List.length_nil, Nat.reduceAdd, Nat.reduceLT, Nat.reduceLeDiff]
  refine c_is (by omega) hI hM hL ?_
  rcases isF_c S f hI with c | ⟨r, hr, rfl, c, hfr⟩
  · rw [if_neg (fun z => c z.1)] at hp
    rw [if_neg c]
    simp (disch := omega) only [↓EVi, ↓EVc, ↓ft_X7_rulings, ↓reduceIte, ↓EV_obs, ↓EV_obn, ↓EV_ais, ↓EV_ain, ↓EV_ob h0, mdF, mRun, List.mem_cons, List.not_mem_nil, or_false, mtab_eq, Nat.reduceEqDiff, Nat.zero_add, hd1, mset2, b10, b00, not_true_eq_false, not_false_eq_true, true_implies, false_implies, implies_true, and_true, true_and, Nat.le_refl, true_or, or_true, eq_self, List.length_cons, List.length_nil, Nat.reduceAdd, Nat.reduceLT, Nat.reduceLeDiff]
    exact hp h hR0 mKeep_rfl
  rw [if_pos c]
  simp (disch := omega) only [↓EVi, ↓EVc, ↓ft_X7_rulings, ↓reduceIte, ↓EV_obs, ↓EV_obn, ↓EV_ais, ↓EV_ain, ↓EV_ob h0, mdF, mRun, List.mem_cons, List.not_mem_nil, or_false, mtab_eq, Nat.reduceEqDiff, Nat.zero_add, hd1, mset2, b10, b00, not_true_eq_false, not_false_eq_true, true_implies, false_implies, implies_true, and_true, true_and, Nat.le_refl, true_or, or_true, eq_self, List.length_cons, List.length_nil, Nat.reduceAdd, Nat.reduceLT, Nat.reduceLeDiff]
  refine m_in32 (lo := 0) (hi := 2) ?_
  by_cases c1 : 0 ≤ so ∧ so ≤ 2
  case neg =>
    rw [if_neg c1]
    rw [if_neg (fun z => c1 z.2.1)] at hp
    simp (disch := omega) only [↓EVi, ↓EVc, ↓ft_X7_rulings, ↓reduceIte, ↓EV_obs, ↓EV_obn, ↓EV_ais, ↓EV_ain, ↓EV_ob h0, mdF, mRun, List.mem_cons, List.not_mem_nil, or_false, mtab_eq, Nat.reduceEqDiff, Nat.zero_add, hd1, mset2, b10, b00, not_true_eq_false, not_false_eq_true, true_implies, false_implies, implies_true, and_true, true_and, Nat.le_refl, true_or, or_true, eq_self, List.length_cons, List.length_nil, Nat.reduceAdd, Nat.reduceLT, Nat.reduceLeDiff]
    exact hp h hR0 mKeep_rfl
  rw [if_pos c1]
  rw [hfr] at hp
  have hs0 := hL.2.1 r hr
  have hw := hI.2.1 r hr
  have b := vld_bd hw.1
  have hnP := nP_le hw
  obtain ⟨t, ht, rfl⟩ := arg_le so 2 (by decide) c1
  rw [nI_clamp (n := t) (by omega)] at hp
  simp (disch := omega) only [↓EVi, ↓EVc, ↓ft_X7_rulings, ↓reduceIte, ↓EV_obs, ↓EV_obn, ↓EV_ais, ↓EV_ain, ↓EV_ob h0, mdF, mRun, List.mem_cons, List.not_mem_nil, or_false, mtab_eq, Nat.reduceEqDiff, Nat.zero_add, hd1, mset2, b10, b00, not_true_eq_false, not_false_eq_true, true_implies, false_implies, implies_true, and_true, true_and, Nat.le_refl, true_or, or_true, eq_self, List.length_cons, List.length_nil, Nat.reduceAdd, Nat.reduceLT, Nat.reduceLeDiff]
  refine ⟨fun c2 => ?_, fun c2 => ?_⟩
  case refine_2 =>
    rw [if_neg (fun z => c2 z.2.2)] at hp
    exact hp h hR0 mKeep_rfl
  rw [if_pos ⟨c, c1, c2⟩] at hp
  refine m_goAlong (by omega) hw hs0 (by omega) hM (fun h1 v1 a1 htr hM1 hk1 hv1 ha1 => ?_)
  have hs1 : slotR a1 r (S.1.getD r []) := slotR_congr (ha1 1 (by decide)) (ha1 2 (by decide)) (ha1 3 (by decide)) hs0
  have h01 := hM1.1
  have e24 : (v1 24 ≤ 1) ↔ ¬ 1 < nP (S.1.getD r []) := by
    rw [htr.2.1]
    show nI (nP (S.1.getD r [])) ≤ 1 ↔ _
    simp (disch := omega) only [z_nI, z_lit, z_neg, z_add, z_sub, z_mul, z_lt, z_le, z_eq, z_in, z_cl]
    omega
  have hL1 := MRel_tr hL hv1 ha1
  generalize hes : S.1.getD r [] = es at *
  have go : ¬ (nI t = 2 ∧ 1 < nP es) → MW G MX7_rulings (mz G d 0 0 post) 48 [some (.ref M), some (.int (nI r)), some (.int (nI t)), some (.int n), none, none, none, none] [] h1 (N, 0, 0) := by
    intro c3
    rw [if_neg c3] at hp
    refine MW.run1 gd_X7_rulings [67] 30 ?_
    simp (disch := omega) only [↓EVi, ↓EVc, ↓ft_X7_rulings, ↓reduceIte, ↓EV_obs, ↓EV_obn, ↓EV_ais, ↓EV_ain, ↓EV_ob h01, mdF, mRun, List.mem_cons, List.not_mem_nil, or_false, mtab_eq, Nat.reduceEqDiff, Nat.zero_add, hd1, mset2, b10, b00, not_true_eq_false, not_false_eq_true, true_implies, false_implies, implies_true, and_true, true_and, Nat.le_refl, true_or, or_true, eq_self, List.length_cons, List.length_nil, Nat.reduceAdd, Nat.reduceLT, Nat.reduceLeDiff]
    refine m_layMay (by omega) hw hs1 (by omega) htr hM1 ht (fun h2 a2 hM2 hmy hu2 hk2 => ?_)
    have hs2 : slotR a2 r es := slotR_congr (hu2 1 (by decide)) (hu2 2 (by decide)) (hu2 3 (by decide)) hs1
    simp (disch := omega) only [↓EVi, ↓EVc, ↓ft_X7_rulings, ↓reduceIte, ↓EV_obs, ↓EV_obn, ↓EV_ais, ↓EV_ain, ↓EV_ob hM2.1, mdF, mRun, List.mem_cons, List.not_mem_nil, or_false, mtab_eq, Nat.reduceEqDiff, Nat.zero_add, hd1, mset2, b10, b00, not_true_eq_false, not_false_eq_true, true_implies, false_implies, implies_true, and_true, true_and, Nat.le_refl, true_or, or_true, eq_self, List.length_cons, List.length_nil, Nat.reduceAdd, Nat.reduceLT, Nat.reduceLeDiff]
    refine m_crossesOf hM2 hs2 hw.1 (by omega) ?_
    simp (disch := omega) only [↓EVi, ↓EVc, ↓ft_X7_rulings, ↓reduceIte, ↓EV_obs, ↓EV_obn, ↓EV_ais, ↓EV_ain, ↓EV_ob hM2.1, mdF, mRun, List.mem_cons, List.not_mem_nil, or_false, mtab_eq, Nat.reduceEqDiff, Nat.zero_add, hd1, mset2, b10, b00, not_true_eq_false, not_false_eq_true, true_implies, false_implies, implies_true, and_true, true_and, Nat.le_refl, true_or, or_true, eq_self, List.length_cons, List.length_nil, Nat.reduceAdd, Nat.reduceLT, Nat.reduceLeDiff]
    have h12 := two12 b.2.2
    refine MW.upto (2 ^ crs es) (fun s L h' => ∃ a' x7, L = [some (.ref M), some (.int (nI r)), some (.int (nI t)), some (.int n), some (.int (nI (crs es))), some (.int (nI (rcM es t n s))), some (.int (nI s)), x7] ∧ ModelC h' G M v1 a' ∧ (∀ k, k ≠ 16 → a' k = a2 k) ∧ mKeep h h' M (M + 17)) ?_ ?_ 0 _ _ (Nat.zero_le _) ⟨a2, none, rfl, hM2, fun _ _ => rfl, mKeep_trans hk1 hk2⟩
    · rintro s L h' hs ⟨a', x7, rfl, hM', u, hk⟩ ih
      have h0 := hM'.1
      have hs' : slotR a' r es := slotR_congr (u 1 (by decide)) (u 2 (by decide)) (u 3 (by decide)) hs2
      have hmy' : mayR a' es (mayF es t) := fun x hx => by rw [u 17 (by decide)]; exact hmy x hx
      have f1 : ((1 : Int32) <<< (nI (crs es) &&& 31) ≤ nI s) = False := eq_false (by rw [sh_all b.2.2]; simp (disch := omega) only [z_nI, z_lit, z_neg, z_add, z_sub, z_mul, z_lt, z_le, z_eq, z_in, z_cl]; omega)
      refine MW.run1 gd_X7_rulings [67, 87] 12 ?_
      simp (disch := omega) only [↓EVk, ↓w_if_eq, ↓w_an_ite, ↓mEndK, ↓w_retK0, ↓w_fitK, ↓w_dupK, ↓w_dup2K, w_an_back, ↓EVd, ↓ft_X7_rulings, ↓reduceIte, ↓EV_obs, ↓EV_obn, ↓EV_ais, ↓EV_ain, ↓EV_ob h0, mdF, mRun, List.mem_cons, List.not_mem_nil, or_false, mtab_eq, Nat.reduceEqDiff, Nat.zero_add, hd1, f1, mset2, b10, b00, not_true_eq_false, not_false_eq_true, true_implies, false_implies, implies_true, and_true, true_and, Nat.le_refl, true_or, or_true, eq_self, List.length_cons, List.length_nil, Nat.reduceAdd, Nat.reduceLT, Nat.reduceLeDiff]
      refine m_ruled (by omega) hw hs' (by omega) hM' hmy' (by omega) (fun h3 a3 hM3 u3 hk3 => ?_)
      have nx : ∀ (y : Int32) x7, y = nI (rcM es t n (s + 1)) → MW G MX7_rulings (mz G d 0 0 post) 67 [some (.ref M), some (.int (nI r)), some (.int (nI t)), some (.int n), some (.int (nI (crs es))), some (.int y), some (.int (nI (s + 1))), x7] [] h3 (N, 0, 0) := by
        rintro y x7 rfl
        exact ih _ _ ⟨a3, x7, rfl, hM3, fun k hk => by rw [u3 k hk]; exact u k hk, mKeep_trans hk hk3⟩
      have er : rcM es t n (s + 1) = rcM es t n s + (if rWant es t n s then 1 else 0) := rfl
      clear ih
      have n4 : ∀ m : Nat, m ≤ 12 → ¬ nI m = -4 := fun m hm => by simp (disch := omega) only [z_nI, z_lit, z_neg, z_add, z_sub, z_mul, z_lt, z_le, z_eq, z_in, z_cl]; omega
      have hcT : cT (bitsL (crs es) s) ≤ 12 := by
        have q1 : cT (bitsL (crs es) s) ≤ (bitsL (crs es) s).length := List.countP_le_length
        have q2 : (bitsL (crs es) s).length = crs es := by unfold bitsL; simp
        omega
      have hrw : rk es (mayF es t) es.length 0 (fun _ => 0) (bitsL (crs es) s) = rOk es t s := rfl
      rw [hrw]
      cases hok : rOk es t s with
      | false =>
        simp only [Bool.false_eq_true, ↓reduceIte]
        simp (disch := omega) only [↓EVk, ↓w_if_eq, ↓w_an_ite, ↓mEndK, ↓w_retK0, ↓w_fitK, ↓w_dupK, ↓w_dup2K, w_an_back, ↓EVd, ↓ft_X7_rulings, ↓reduceIte, ↓EV_obs, ↓EV_obn, ↓EV_ais, ↓EV_ain, mdF, mRun, List.mem_cons, List.not_mem_nil, or_false, mtab_eq, Nat.reduceEqDiff, Nat.zero_add, mset2, b10, b00, not_true_eq_false, not_false_eq_true, true_implies, false_implies, implies_true, and_true, true_and, Nat.le_refl, true_or, or_true, eq_self, List.length_cons, List.length_nil, Nat.reduceAdd, Nat.reduceLT, Nat.reduceLeDiff]
        refine MW.run1 gd_X7_rulings [67] 24 ?_
        simp (disch := omega) only [↓EVi, ↓EVc, ↓ft_X7_rulings, ↓reduceIte, ↓EV_obs, ↓EV_obn, ↓EV_ais, ↓EV_ain, mdF, mRun, List.mem_cons, List.not_mem_nil, or_false, mtab_eq, Nat.reduceEqDiff, Nat.zero_add, bm4, mset2, b10, b00, not_true_eq_false, not_false_eq_true, true_implies, false_implies, implies_true, and_true, true_and, Nat.le_refl, true_or, or_true, eq_self, List.length_cons, List.length_nil, Nat.reduceAdd, Nat.reduceLT, Nat.reduceLeDiff]
        rw [nI_1]
        refine nx _ _ ?_
        rw [er, if_neg (fun z => by have := z.1; rw [hok] at this; exact absurd this (by decide))]
        exact nI_add _ 0
      | true =>
        simp only [↓reduceIte]
        simp (disch := omega) only [↓EVk, ↓w_if_eq, ↓w_an_ite, ↓mEndK, ↓w_retK0, ↓w_fitK, ↓w_dupK, ↓w_dup2K, w_an_back, ↓EVd, ↓ft_X7_rulings, ↓reduceIte, ↓EV_obs, ↓EV_obn, ↓EV_ais, ↓EV_ain, mdF, mRun, List.mem_cons, List.not_mem_nil, or_false, mtab_eq, Nat.reduceEqDiff, Nat.zero_add, mset2, b10, b00, not_true_eq_false, not_false_eq_true, true_implies, false_implies, implies_true, and_true, true_and, Nat.le_refl, true_or, or_true, eq_self, List.length_cons, List.length_nil, Nat.reduceAdd, Nat.reduceLT, Nat.reduceLeDiff]
        have g1 : (nI (cT (bitsL (crs es) s)) = -4) = False := eq_false (n4 _ hcT)
        refine MW.run1 gd_X7_rulings [67] 24 ?_
        simp (disch := omega) only [↓EVi, ↓EVc, ↓ft_X7_rulings, ↓reduceIte, ↓EV_obs, ↓EV_obn, ↓EV_ais, ↓EV_ain, mdF, mRun, List.mem_cons, List.not_mem_nil, or_false, mtab_eq, Nat.reduceEqDiff, Nat.zero_add, g1, mset2, b10, b00, not_true_eq_false, not_false_eq_true, true_implies, false_implies, implies_true, and_true, true_and, Nat.le_refl, true_or, or_true, eq_self, List.length_cons, List.length_nil, Nat.reduceAdd, Nat.reduceLT, Nat.reduceLeDiff]
        simp only [nI_1]
        refine ⟨fun q1 => nx _ _ ?_, fun q1 => ⟨fun q2 => nx _ _ ?_, fun q2 => nx _ _ ?_⟩⟩
        · rw [er, if_pos ⟨hok, Or.inl q1⟩]
        · rw [er, if_neg (fun z => z.2.elim q1 q2)]
          exact nI_add _ 0
        · rw [er, if_pos ⟨hok, Or.inr (Classical.not_not.mp q2)⟩]
    · rintro L h' ⟨a', x7, rfl, hM', u, hk⟩
      have f1 : ((1 : Int32) <<< (nI (crs es) &&& 31) ≤ nI (2 ^ crs es)) = True := eq_true (by rw [sh_all b.2.2]; exact nI_le (Nat.le_refl _) (by omega))
      refine MW.run1 gd_X7_rulings [67] 10 ?_
      simp (disch := omega) only [↓EVk, ↓w_if_eq, ↓w_an_ite, ↓mEndK, ↓w_retK0, ↓w_fitK, ↓w_dupK, ↓w_dup2K, w_an_back, ↓EVd, ↓ft_X7_rulings, ↓reduceIte, ↓EV_obs, ↓EV_obn, ↓EV_ais, ↓EV_ain, mdF, mRun, List.mem_cons, List.not_mem_nil, or_false, mtab_eq, Nat.reduceEqDiff, Nat.zero_add, f1, mset2, b10, b00, not_true_eq_false, not_false_eq_true, true_implies, false_implies, implies_true, and_true, true_and, Nat.le_refl, true_or, or_true, eq_self, List.length_cons, List.length_nil, Nat.reduceAdd, Nat.reduceLT, Nat.reduceLeDiff]
      refine hp h' ⟨v1, a', hM', MRel_congr hL1 (fun _ _ => rfl) (fun k hk => by rw [u k (by omega)]; exact hu2 k (by omega))⟩ hk
  have e2 : (nI t = (2 : Int32)) ↔ t = 2 := nI_eq (b := 2) (by omega) (by omega)
  simp (disch := omega) only [↓EVi, ↓EVc, ↓ft_X7_rulings, ↓reduceIte, ↓EV_obs, ↓EV_obn, ↓EV_ais, ↓EV_ain, ↓EV_ob h01, mdF, mRun, List.mem_cons, List.not_mem_nil, or_false, mtab_eq, Nat.reduceEqDiff, Nat.zero_add, hd1, mset2, b10, b00, not_true_eq_false, not_false_eq_true, true_implies, false_implies, implies_true, and_true, true_and, Nat.le_refl, true_or, or_true, eq_self, List.length_cons, List.length_nil, Nat.reduceAdd, Nat.reduceLT, Nat.reduceLeDiff]
  refine ⟨fun z => go (fun y => z y.1), fun z => ⟨fun z2 => go (fun y => e24.mp z2 y.2), fun z2 => ?_⟩⟩
  rw [if_pos ⟨Classical.not_not.mp z, Classical.not_not.mp (fun y => z2 (e24.mpr y))⟩] at hp
  exact hp h1 ⟨v1, a1, hM1, hL1⟩ hk1
set_option maxRecDepth 10000 in
theorem M_first {f so i : Int32} (hd : 4 ≤ d) (hI : SInv S) (hR : MR h G M S) (hp : ∀ h', MR h' G M (aFirst f so i S).2 → mKeep h h' M (M + 17) → post (some (.int (aFirst f so i S).1)) h') : MC G MX7_first d 0 0 [.ref M, .int f, .int so, .int i] h N post := by
  have hR0 := hR
  have h8 := hI.1
  have hd1 : 1 ≤ d := by omega
  obtain ⟨v, a, hM, hL⟩ := hR
  have h0 := hM.1
  unfold aFirst at hp
  refine MC.of (L0 := [some (.ref M), some (.int f), some (.int so), some (.int i), none, none]) gd_X7_first (Nat.le_of_ble_eq_true rfl) rfl (MW.run gd_X7_first [60, 76] 40 ?_)
  simp (disch := omega) only [↓EVi, ↓EVc, ↓ft_X7_first, ↓reduceIte, ↓EV_obs, ↓EV_obn, ↓EV_ais, ↓EV_ain, ↓EV_ob h0, mdF, mRun, List.mem_cons, List.not_mem_nil, or_false, mtab_eq, Nat.reduceEqDiff, Nat.zero_add, hd1, mset2, b10, b00, not_true_eq_false, not_false_eq_true, true_implies, false_implies, implies_true, and_true, true_and, Nat.le_refl, true_or, or_true, eq_self, List.length_cons, List.length_nil, Nat.reduceAdd, Nat.reduceLT, Nat.reduceLeDiff]
  refine c_is (by omega) hI hM hL ?_
  rcases isF_c S f hI with c | ⟨r, hr, rfl, c, hfr⟩
  · rw [if_neg (fun z => c z.1)] at hp
    rw [if_neg c]
    simp (disch := omega) only [↓EVi, ↓EVc, ↓ft_X7_first, ↓reduceIte, ↓EV_obs, ↓EV_obn, ↓EV_ais, ↓EV_ain, ↓EV_ob h0, mdF, mRun, List.mem_cons, List.not_mem_nil, or_false, mtab_eq, Nat.reduceEqDiff, Nat.zero_add, hd1, mset2, b10, b00, not_true_eq_false, not_false_eq_true, true_implies, false_implies, implies_true, and_true, true_and, Nat.le_refl, true_or, or_true, eq_self, List.length_cons, List.length_nil, Nat.reduceAdd, Nat.reduceLT, Nat.reduceLeDiff]
    exact hp h hR0 mKeep_rfl
  rw [if_pos c]
  simp (disch := omega) only [↓EVi, ↓EVc, ↓ft_X7_first, ↓reduceIte, ↓EV_obs, ↓EV_obn, ↓EV_ais, ↓EV_ain, ↓EV_ob h0, mdF, mRun, List.mem_cons, List.not_mem_nil, or_false, mtab_eq, Nat.reduceEqDiff, Nat.zero_add, hd1, mset2, b10, b00, not_true_eq_false, not_false_eq_true, true_implies, false_implies, implies_true, and_true, true_and, Nat.le_refl, true_or, or_true, eq_self, List.length_cons, List.length_nil, Nat.reduceAdd, Nat.reduceLT, Nat.reduceLeDiff]
  refine m_in32 (lo := 0) (hi := 2) ?_
  by_cases c1 : 0 ≤ so ∧ so ≤ 2
  case neg =>
    rw [if_neg c1]
    rw [if_neg (fun z => c1 z.2.1)] at hp
    simp (disch := omega) only [↓EVi, ↓EVc, ↓ft_X7_first, ↓reduceIte, ↓EV_obs, ↓EV_obn, ↓EV_ais, ↓EV_ain, ↓EV_ob h0, mdF, mRun, List.mem_cons, List.not_mem_nil, or_false, mtab_eq, Nat.reduceEqDiff, Nat.zero_add, hd1, mset2, b10, b00, not_true_eq_false, not_false_eq_true, true_implies, false_implies, implies_true, and_true, true_and, Nat.le_refl, true_or, or_true, eq_self, List.length_cons, List.length_nil, Nat.reduceAdd, Nat.reduceLT, Nat.reduceLeDiff]
    exact hp h hR0 mKeep_rfl
  rw [if_pos c1]
  rw [hfr] at hp
  have hs0 := hL.2.1 r hr
  have hw := hI.2.1 r hr
  have b := vld_bd hw.1
  have hnP := nP_le hw
  obtain ⟨t, ht, rfl⟩ := arg_le so 2 (by decide) c1
  rw [nI_clamp (n := t) (by omega)] at hp
  simp (disch := omega) only [↓EVi, ↓EVc, ↓ft_X7_first, ↓reduceIte, ↓EV_obs, ↓EV_obn, ↓EV_ais, ↓EV_ain, ↓EV_ob h0, mdF, mRun, List.mem_cons, List.not_mem_nil, or_false, mtab_eq, Nat.reduceEqDiff, Nat.zero_add, hd1, mset2, b10, b00, not_true_eq_false, not_false_eq_true, true_implies, false_implies, implies_true, and_true, true_and, Nat.le_refl, true_or, or_true, eq_self, List.length_cons, List.length_nil, Nat.reduceAdd, Nat.reduceLT, Nat.reduceLeDiff]
  refine m_crossesOf hM hs0 hw.1 (by omega) ?_
  simp (disch := omega) only [↓EVi, ↓EVc, ↓ft_X7_first, ↓reduceIte, ↓EV_obs, ↓EV_obn, ↓EV_ais, ↓EV_ain, ↓EV_ob h0, mdF, mRun, List.mem_cons, List.not_mem_nil, or_false, mtab_eq, Nat.reduceEqDiff, Nat.zero_add, hd1, mset2, b10, b00, not_true_eq_false, not_false_eq_true, true_implies, false_implies, implies_true, and_true, true_and, Nat.le_refl, true_or, or_true, eq_self, List.length_cons, List.length_nil, Nat.reduceAdd, Nat.reduceLT, Nat.reduceLeDiff]
  refine m_in32 (lo := 0) ?_
  simp (disch := omega) only [le_pred]
  by_cases c2 : 0 ≤ i ∧ i < nI (crs (S.1.getD r []))
  case neg =>
    rw [if_neg c2]
    rw [if_neg (fun z => c2 z.2.2)] at hp
    simp (disch := omega) only [↓EVi, ↓EVc, ↓ft_X7_first, ↓reduceIte, ↓EV_obs, ↓EV_obn, ↓EV_ais, ↓EV_ain, ↓EV_ob h0, mdF, mRun, List.mem_cons, List.not_mem_nil, or_false, mtab_eq, Nat.reduceEqDiff, Nat.zero_add, hd1, mset2, b10, b00, not_true_eq_false, not_false_eq_true, true_implies, false_implies, implies_true, and_true, true_and, Nat.le_refl, true_or, or_true, eq_self, List.length_cons, List.length_nil, Nat.reduceAdd, Nat.reduceLT, Nat.reduceLeDiff]
    exact hp h hR0 mKeep_rfl
  rw [if_pos c2]
  rw [if_pos ⟨c, c1, c2⟩] at hp
  rcases arg_ix i (n := crs (S.1.getD r [])) (by omega) with z | ⟨w, hwc, rfl⟩
  · exact absurd c2 z
  rw [nI_clamp (n := w) (by omega)] at hp
  simp (disch := omega) only [↓EVi, ↓EVc, ↓ft_X7_first, ↓reduceIte, ↓EV_obs, ↓EV_obn, ↓EV_ais, ↓EV_ain, ↓EV_ob h0, mdF, mRun, List.mem_cons, List.not_mem_nil, or_false, mtab_eq, Nat.reduceEqDiff, Nat.zero_add, hd1, mset2, b10, b00, not_true_eq_false, not_false_eq_true, true_implies, false_implies, implies_true, and_true, true_and, Nat.le_refl, true_or, or_true, eq_self, List.length_cons, List.length_nil, Nat.reduceAdd, Nat.reduceLT, Nat.reduceLeDiff]
  refine m_goAlong (by omega) hw hs0 (by omega) hM (fun h1 v1 a1 htr hM1 hk1 hv1 ha1 => ?_)
  have hs1 : slotR a1 r (S.1.getD r []) := slotR_congr (ha1 1 (by decide)) (ha1 2 (by decide)) (ha1 3 (by decide)) hs0
  have h01 := hM1.1
  have e24 : (v1 24 ≤ 1) ↔ ¬ 1 < nP (S.1.getD r []) := by
    rw [htr.2.1]
    show nI (nP (S.1.getD r [])) ≤ 1 ↔ _
    simp (disch := omega) only [z_nI, z_lit, z_neg, z_add, z_sub, z_mul, z_lt, z_le, z_eq, z_in, z_cl]
    omega
  have hL1 := MRel_tr hL hv1 ha1
  generalize hes : S.1.getD r [] = es at *
  have go : ¬ (nI t = 2 ∧ 1 < nP es) → MW G MX7_first (mz G d 0 0 post) 60 [some (.ref M), some (.int (nI r)), some (.int (nI t)), some (.int (nI w)), none, none] [] h1 (N, 0, 0) := by
    intro c3
    rw [if_neg c3] at hp
    refine MW.run1 gd_X7_first [76] 30 ?_
    simp (disch := omega) only [↓EVi, ↓EVc, ↓ft_X7_first, ↓reduceIte, ↓EV_obs, ↓EV_obn, ↓EV_ais, ↓EV_ain, ↓EV_ob h01, mdF, mRun, List.mem_cons, List.not_mem_nil, or_false, mtab_eq, Nat.reduceEqDiff, Nat.zero_add, hd1, mset2, b10, b00, not_true_eq_false, not_false_eq_true, true_implies, false_implies, implies_true, and_true, true_and, Nat.le_refl, true_or, or_true, eq_self, List.length_cons, List.length_nil, Nat.reduceAdd, Nat.reduceLT, Nat.reduceLeDiff]
    refine m_layMay (by omega) hw hs1 (by omega) htr hM1 ht (fun h2 a2 hM2 hmy hu2 hk2 => ?_)
    have hs2 : slotR a2 r es := slotR_congr (hu2 1 (by decide)) (hu2 2 (by decide)) (hu2 3 (by decide)) hs1
    simp (disch := omega) only [↓EVi, ↓EVc, ↓ft_X7_first, ↓reduceIte, ↓EV_obs, ↓EV_obn, ↓EV_ais, ↓EV_ain, ↓EV_ob hM2.1, mdF, mRun, List.mem_cons, List.not_mem_nil, or_false, mtab_eq, Nat.reduceEqDiff, Nat.zero_add, hd1, mset2, b10, b00, not_true_eq_false, not_false_eq_true, true_implies, false_implies, implies_true, and_true, true_and, Nat.le_refl, true_or, or_true, eq_self, List.length_cons, List.length_nil, Nat.reduceAdd, Nat.reduceLT, Nat.reduceLeDiff]
    refine m_crossesOf hM2 hs2 hw.1 (by omega) ?_
    simp (disch := omega) only [↓EVi, ↓EVc, ↓ft_X7_first, ↓reduceIte, ↓EV_obs, ↓EV_obn, ↓EV_ais, ↓EV_ain, ↓EV_ob hM2.1, mdF, mRun, List.mem_cons, List.not_mem_nil, or_false, mtab_eq, Nat.reduceEqDiff, Nat.zero_add, hd1, mset2, b10, b00, not_true_eq_false, not_false_eq_true, true_implies, false_implies, implies_true, and_true, true_and, Nat.le_refl, true_or, or_true, eq_self, List.length_cons, List.length_nil, Nat.reduceAdd, Nat.reduceLT, Nat.reduceLeDiff]
    have h12 := two12 b.2.2
    refine MW.upto (2 ^ crs es) (fun s L h' => ∃ a', L = [some (.ref M), some (.int (nI r)), some (.int (nI t)), some (.int (nI w)), some (.int (nI (crs es))), some (.int (nI s))] ∧ ModelC h' G M v1 a' ∧ (∀ k, k ≠ 16 → a' k = a2 k) ∧ fsM es t (2 ^ crs es) 0 = fsM es t (2 ^ crs es - s) s ∧ mKeep h h' M (M + 17)) ?_ ?_ 0 _ _ (Nat.zero_le _) ⟨a2, rfl, hM2, fun _ _ => rfl, rfl, mKeep_trans hk1 hk2⟩
    · rintro s L h' hs ⟨a', rfl, hM', u, hfs, hk⟩ ih
      have h0 := hM'.1
      have hs' : slotR a' r es := slotR_congr (u 1 (by decide)) (u 2 (by decide)) (u 3 (by decide)) hs2
      have hmy' : mayR a' es (mayF es t) := fun x hx => by rw [u 17 (by decide)]; exact hmy x hx
      have f1 : ((1 : Int32) <<< (nI (crs es) &&& 31) ≤ nI s) = False := eq_false (by rw [sh_all b.2.2]; simp (disch := omega) only [z_nI, z_lit, z_neg, z_add, z_sub, z_mul, z_lt, z_le, z_eq, z_in, z_cl]; omega)
      refine MW.run1 gd_X7_first [76, 94] 12 ?_
      simp (disch := omega) only [↓EVk, ↓w_if_eq, ↓w_an_ite, ↓mEndK, ↓w_retK0, ↓w_fitK, ↓w_dupK, ↓w_dup2K, w_an_back, ↓EVd, ↓ft_X7_first, ↓reduceIte, ↓EV_obs, ↓EV_obn, ↓EV_ais, ↓EV_ain, ↓EV_ob h0, mdF, mRun, List.mem_cons, List.not_mem_nil, or_false, mtab_eq, Nat.reduceEqDiff, Nat.zero_add, hd1, f1, mset2, b10, b00, not_true_eq_false, not_false_eq_true, true_implies, false_implies, implies_true, and_true, true_and, Nat.le_refl, true_or, or_true, eq_self, List.length_cons, List.length_nil, Nat.reduceAdd, Nat.reduceLT, Nat.reduceLeDiff]
      refine m_ruled (by omega) hw hs' (by omega) hM' hmy' (by omega) (fun h3 a3 hM3 u3 hk3 => ?_)
      have hcT : cT (bitsL (crs es) s) ≤ 12 := by
        have q1 : cT (bitsL (crs es) s) ≤ (bitsL (crs es) s).length := List.countP_le_length
        have q2 : (bitsL (crs es) s).length = crs es := by unfold bitsL; simp
        omega
      have hrw : rk es (mayF es t) es.length 0 (fun _ => 0) (bitsL (crs es) s) = rOk es t s := rfl
      rw [hrw]
      rw [show 2 ^ crs es - s = (2 ^ crs es - (s + 1)) + 1 by omega] at hfs
      have ef : fsM es t (2 ^ crs es - (s + 1) + 1) s = if rOk es t s = true then some s else fsM es t (2 ^ crs es - (s + 1)) (s + 1) := rfl
      rw [ef] at hfs
      cases hok : rOk es t s with
      | false =>
        rw [hok] at hfs
        simp only [Bool.false_eq_true, ↓reduceIte] at hfs ⊢
        simp (disch := omega) only [↓EVk, ↓w_if_eq, ↓w_an_ite, ↓mEndK, ↓w_retK0, ↓w_fitK, ↓w_dupK, ↓w_dup2K, w_an_back, ↓EVd, ↓ft_X7_first, ↓reduceIte, ↓EV_obs, ↓EV_obn, ↓EV_ais, ↓EV_ain, mdF, mRun, List.mem_cons, List.not_mem_nil, or_false, mtab_eq, Nat.reduceEqDiff, Nat.zero_add, mset2, b10, b00, not_true_eq_false, not_false_eq_true, true_implies, false_implies, implies_true, and_true, true_and, Nat.le_refl, true_or, or_true, eq_self, List.length_cons, List.length_nil, Nat.reduceAdd, Nat.reduceLT, Nat.reduceLeDiff]
        refine MW.run1 gd_X7_first [76] 14 ?_
        simp (disch := omega) only [↓EVk, ↓w_if_eq, ↓w_an_ite, ↓mEndK, ↓w_retK0, ↓w_fitK, ↓w_dupK, ↓w_dup2K, w_an_back, ↓EVd, ↓ft_X7_first, ↓reduceIte, ↓EV_obs, ↓EV_obn, ↓EV_ais, ↓EV_ain, mdF, mRun, List.mem_cons, List.not_mem_nil, or_false, mtab_eq, Nat.reduceEqDiff, Nat.zero_add, bm4, mset2, b10, b00, not_true_eq_false, not_false_eq_true, true_implies, false_implies, implies_true, and_true, true_and, Nat.le_refl, true_or, or_true, eq_self, List.length_cons, List.length_nil, Nat.reduceAdd, Nat.reduceLT, Nat.reduceLeDiff]
        rw [nI_1]
        exact ih _ _ ⟨a3, rfl, hM3, fun k hk => by rw [u3 k hk]; exact u k hk, hfs, mKeep_trans hk hk3⟩
      | true =>
        rw [hok] at hfs
        simp only [↓reduceIte] at hfs ⊢
        rw [hfs] at hp
        simp (disch := omega) only [↓EVk, ↓w_if_eq, ↓w_an_ite, ↓mEndK, ↓w_retK0, ↓w_fitK, ↓w_dupK, ↓w_dup2K, w_an_back, ↓EVd, ↓ft_X7_first, ↓reduceIte, ↓EV_obs, ↓EV_obn, ↓EV_ais, ↓EV_ain, mdF, mRun, List.mem_cons, List.not_mem_nil, or_false, mtab_eq, Nat.reduceEqDiff, Nat.zero_add, mset2, b10, b00, not_true_eq_false, not_false_eq_true, true_implies, false_implies, implies_true, and_true, true_and, Nat.le_refl, true_or, or_true, eq_self, List.length_cons, List.length_nil, Nat.reduceAdd, Nat.reduceLT, Nat.reduceLeDiff]
        have g1 : (nI (cT (bitsL (crs es) s)) = -4) = False := eq_false (by simp (disch := omega) only [z_nI, z_lit, z_neg, z_add, z_sub, z_mul, z_lt, z_le, z_eq, z_in, z_cl]; omega)
        refine MW.run1 gd_X7_first [76] 14 ?_
        simp (disch := omega) only [↓EVk, ↓w_if_eq, ↓w_an_ite, ↓mEndK, ↓w_retK0, ↓w_fitK, ↓w_dupK, ↓w_dup2K, w_an_back, ↓EVd, ↓ft_X7_first, ↓reduceIte, ↓EV_obs, ↓EV_obn, ↓EV_ais, ↓EV_ain, mdF, mRun, List.mem_cons, List.not_mem_nil, or_false, mtab_eq, Nat.reduceEqDiff, Nat.zero_add, g1, mset2, b10, b00, not_true_eq_false, not_false_eq_true, true_implies, false_implies, implies_true, and_true, true_and, Nat.le_refl, true_or, or_true, eq_self, List.length_cons, List.length_nil, Nat.reduceAdd, Nat.reduceLT, Nat.reduceLeDiff]
        have esh : nI s >>> (nI (crs es) - 1 - nI w &&& 31) &&& 1 = (if bitL (crs es) s w = true then 1 else 0) := by
          rw [show nI (crs es) - 1 - nI w = nI (crs es - 1 - w) by simp (disch := omega) only [z_nI, z_lit, z_neg, z_add, z_sub, z_mul, z_lt, z_le, z_eq, z_in, z_cl]; omega, sh_bit (by omega) (by omega)]
          unfold bitL
          by_cases q : s / 2 ^ (crs es - 1 - w) % 2 = 1
          · simp [q]
            rfl
          · have : s / 2 ^ (crs es - 1 - w) % 2 = 0 := by omega
            simp [this]
            rfl
        rw [esh]
        exact hp h3 ⟨v1, a3, hM3, MRel_congr hL1 (fun _ _ => rfl) (fun k hk => by rw [u3 k (by omega), u k (by omega)]; exact hu2 k (by omega))⟩ (mKeep_trans hk hk3)
    · rintro L h' ⟨a', rfl, hM', u, hfs, hk⟩
      have f1 : ((1 : Int32) <<< (nI (crs es) &&& 31) ≤ nI (2 ^ crs es)) = True := eq_true (by rw [sh_all b.2.2]; exact nI_le (Nat.le_refl _) (by omega))
      rw [Nat.sub_self] at hfs
      have ef : fsM es t 0 (2 ^ crs es) = none := rfl
      rw [hfs, ef] at hp
      refine MW.run1 gd_X7_first [76] 10 ?_
      simp (disch := omega) only [↓EVk, ↓w_if_eq, ↓w_an_ite, ↓mEndK, ↓w_retK0, ↓w_fitK, ↓w_dupK, ↓w_dup2K, w_an_back, ↓EVd, ↓ft_X7_first, ↓reduceIte, ↓EV_obs, ↓EV_obn, ↓EV_ais, ↓EV_ain, mdF, mRun, List.mem_cons, List.not_mem_nil, or_false, mtab_eq, Nat.reduceEqDiff, Nat.zero_add, f1, mset2, b10, b00, not_true_eq_false, not_false_eq_true, true_implies, false_implies, implies_true, and_true, true_and, Nat.le_refl, true_or, or_true, eq_self, List.length_cons, List.length_nil, Nat.reduceAdd, Nat.reduceLT, Nat.reduceLeDiff]
      refine hp h' ⟨v1, a', hM', MRel_congr hL1 (fun _ _ => rfl) (fun k hk => by rw [u k (by omega)]; exact hu2 k (by omega))⟩ hk
  simp (disch := omega) only [↓EVi, ↓EVc, ↓ft_X7_first, ↓reduceIte, ↓EV_obs, ↓EV_obn, ↓EV_ais, ↓EV_ain, ↓EV_ob h01, mdF, mRun, List.mem_cons, List.not_mem_nil, or_false, mtab_eq, Nat.reduceEqDiff, Nat.zero_add, hd1, mset2, b10, b00, not_true_eq_false, not_false_eq_true, true_implies, false_implies, implies_true, and_true, true_and, Nat.le_refl, true_or, or_true, eq_self, List.length_cons, List.length_nil, Nat.reduceAdd, Nat.reduceLT, Nat.reduceLeDiff]
  refine ⟨fun z => go (fun y => z y.1), fun z => ⟨fun z2 => go (fun y => e24.mp z2 y.2), fun z2 => ?_⟩⟩
  rw [if_pos ⟨Classical.not_not.mp z, Classical.not_not.mp (fun y => z2 (e24.mpr y))⟩] at hp
  exact hp h1 ⟨v1, a1, hM1, hL1⟩ hk1
end GOS
