/-! the model: front -/
abbrev roomL (es : List Ev) (k : Nat) : Prop := es.length < 30 ∧ (k = 1 → crs es < 12) ∧ (k = 0 → ahL es + 2 ≤ 10)
abbrev PR : Type := (Nat × Nat) ⊕ List Ev
/-- one event read from place p0 on -/
noncomputable def prsB (T : List Nat) (p0 : Nat) (es : List Ev) (K : Nat → List Ev → PR) : PR :=
  if (tokR T (skp T p0)).1 = 0 then (if es ≠ [] ∧ ahL es = 0 then .inr es else .inl (2, skp T p0))
  else if (tokR T (skp T p0)).1 = 1 then
    (if roomL es (tokR T (skp T p0)).2.1 then
      (if (tokR T (skp T (tokR T (skp T p0)).2.2)).1 = 2 then
        @ite _ (okEv es (tokR T (skp T p0)).2.1 (tokR T (skp T (tokR T (skp T p0)).2.2)).2.1) (Classical.propDecidable _) (K (tokR T (skp T (tokR T (skp T p0)).2.2)).2.2 (es ++ [((tokR T (skp T p0)).2.1, (tokR T (skp T (tokR T (skp T p0)).2.2)).2.1)])) (.inl (3, skp T (tokR T (skp T p0)).2.2))
      else if (tokR T (skp T (tokR T (skp T p0)).2.2)).1 = 3 then .inl (1, skp T (tokR T (skp T p0)).2.2) else .inl (2, skp T (tokR T (skp T p0)).2.2))
    else .inl (4, skp T p0))
  else if (tokR T (skp T p0)).1 = 3 then .inl (1, skp T p0) else .inl (2, skp T p0)
noncomputable def prs (T : List Nat) : Nat → Nat → List Ev → PR
  | 0, _, _ => .inl (4, 0)
  | n + 1, p0, es => prsB T p0 es (prs T n)
noncomputable def aFront (S : AS) : Int32 × AS := if S.1.length = 8 then (-3, S) else match prs S.2.1 31 0 [] with
  | .inl q => (-10 - nI q.2, (S.1, [], q.1, S.2.2.2))
  | .inr es => (nI S.1.length, (S.1 ++ [es], [], 0, S.2.2.2))
theorem prs_succ (T : List Nat) (n p0 : Nat) (es : List Ev) : prs T (n + 1) p0 es = prsB T p0 es (prs T n) := rfl
theorem skpN_le {T : List Nat} : ∀ (n p : Nat), p ≤ T.length → skpN T n p ≤ T.length
  | 0, p, h => h
  | n + 1, p, h => by
    unfold skpN
    split
    · exact skpN_le n (p + 1) (by omega)
    · exact h
theorem skp_le {T : List Nat} {p : Nat} (h : p ≤ T.length) : skp T p ≤ T.length := skpN_le _ _ h
theorem tokR_f {T : List Nat} {p : Nat} (hp : p ≤ T.length) : (tokR T p).1 ≤ 3 ∧ (tokR T p).2.2 ≤ T.length ∧ (tokR T p).2.1 ≤ 99 ∧ ((tokR T p).1 = 1 → (tokR T p).2.1 ≤ 2) := by
  unfold tokR
  by_cases t0 : p < T.length
  · rw [if_pos t0]
    by_cases t1 : T.getD p 0 = 98
    · rw [if_pos t1]
      show 1 ≤ 3 ∧ p + 1 ≤ T.length ∧ 0 ≤ 99 ∧ (1 = 1 → 0 ≤ 2)
      omega
    rw [if_neg t1]
    by_cases t2 : T.getD p 0 = 120
    · rw [if_pos t2]
      show 1 ≤ 3 ∧ p + 1 ≤ T.length ∧ 1 ≤ 99 ∧ (1 = 1 → 1 ≤ 2)
      omega
    rw [if_neg t2]
    by_cases t3 : T.getD p 0 = 100
    · rw [if_pos t3]
      show 1 ≤ 3 ∧ p + 1 ≤ T.length ∧ 2 ≤ 99 ∧ (1 = 1 → 2 ≤ 2)
      omega
    rw [if_neg t3]
    by_cases t4 : dig T p
    · rw [if_pos t4]
      by_cases t5 : dig T (p + 1)
      · rw [if_pos t5]
        by_cases t6 : dig T (p + 2)
        · rw [if_pos t6]
          show 3 ≤ 3 ∧ p ≤ T.length ∧ 0 ≤ 99 ∧ (3 = 1 → 0 ≤ 2)
          omega
        · rw [if_neg t6]
          show 2 ≤ 3 ∧ p + 2 ≤ T.length ∧ 10 * (T.getD p 0 - 48) + (T.getD (p + 1) 0 - 48) ≤ 99 ∧ (2 = 1 → _ ≤ 2)
          refine ⟨by omega, by omega, by omega, fun z => absurd z (by decide)⟩
      · rw [if_neg t5]
        show 2 ≤ 3 ∧ p + 1 ≤ T.length ∧ T.getD p 0 - 48 ≤ 99 ∧ (2 = 1 → _ ≤ 2)
        refine ⟨by omega, by omega, by omega, fun z => absurd z (by decide)⟩
    · rw [if_neg t4]
      show 3 ≤ 3 ∧ p ≤ T.length ∧ 0 ≤ 99 ∧ (3 = 1 → 0 ≤ 2)
      omega
  · rw [if_neg t0]
    show 0 ≤ 3 ∧ p ≤ T.length ∧ 0 ≤ 99 ∧ (0 = 1 → 0 ≤ 2)
    omega
section MCS
variable {G : mG} {d N M : Nat} {S : AS} {h : mH} {post : Option Value → mH → Prop}
set_option maxRecDepth 10000 in
theorem M_front (hd : 2 ≤ d) (hI : SInv S) (hR : MR h G M S) (hp : ∀ h', MR h' G M (aFront S).2 → mKeep h h' M (M + 17) → post (some (.int (aFront S).1)) h') : MC G MX7_front d 0 0 [.ref M] h N post := by
  have hR0 := hR
  have hd1 : 1 ≤ d := by omega
  have h8 := hI.1
  have h120 := hI.2.2.1
  obtain ⟨v, a, hM, hL⟩ := hR
  have h0 := hM.1
  have e8 : (v 0 = 8) ↔ S.1.length = 8 := by rw [hL.1]; exact nI_eq (b := 8) (by omega) (by omega)
  unfold aFront at hp
  generalize hr0 : prs S.2.1 31 0 [] = r0 at hp
  -- the end with a fault
  have W171 : ∀ (x : Option Value) (h' : mH) (v' : Nat → Int32) (a' : Nat → Nat → Int32) (c p : Nat), r0 = .inl (c, p) → ¬ S.1.length = 8 → ModelC h' G M v' a' → MRel v' a' S → v' 10 = nI c → 1 ≤ c → c ≤ 4 → v' 11 = nI p → mKeep h h' M (M + 17) → MW G MX7_front (mz G d 0 0 post) 171 [some (.ref M), x] [] h' (N, 0, 0) := by
    intro x h' v' a' c p er n8 hM' hL' e10 hc1 hc4 e11 hk
    rw [if_neg n8, er] at hp
    refine MW.run gd_X7_front [] 30 ?_
    simp (disch := omega) only [↓EVi, ↓EVc, ↓ft_X7_front, ↓reduceIte, ↓EV_obs, ↓EV_obn, ↓EV_ais, ↓EV_ain, ↓EV_ob hM'.1, mdF, mRun, List.mem_cons, List.not_mem_nil, or_false, mtab_eq, Nat.reduceEqDiff, Nat.zero_add, hd1, mset2, b10, b00, not_true_eq_false, not_false_eq_true, true_implies, false_implies, implies_true, and_true, true_and, Nat.le_refl, true_or, or_true, eq_self, List.length_cons, List.length_nil, Nat.reduceAdd, Nat.reduceLT, Nat.reduceLeDiff]
    refine ⟨fun z => ?_, fun _ => ?_⟩
    · rw [e10] at z
      simp (disch := omega) only [z_nI, z_lit, z_neg, z_add, z_sub, z_mul, z_lt, z_le, z_eq, z_in, z_cl] at z
      omega
    · have key : ∀ x : Int32, x = nI p → post (some (.int (-10 - x))) (mset h' M (.inr (7, mdF M (upd (upd v' 8 0) 9 (v' 10))))) := by
        intro x hx
        subst hx
        exact hp _ ⟨_, a', ModelC_v (v' := upd (upd v' 8 0) 9 (v' 10)) hM', by rw [pk_un (by decide), pk_un (by decide)]; exact hL'.1, hL'.2.1, by rw [pk_un (by decide), pk_us]; rfl, fun i hi => absurd hi (Nat.not_lt_zero i), by rw [pk_us]; exact e10, hL'.2.2.2.2.2⟩ (fun z hz => by rw [mset_ne (by omega)]; exact hk z hz)
      exact key _ e11
  have W30 : ∀ (x : Option Value) (h' : mH) (v' : Nat → Int32) (a' : Nat → Nat → Int32) (c p : Nat), r0 = .inl (c, p) → ¬ S.1.length = 8 → ModelC h' G M v' a' → MRel v' a' S → v' 10 = nI c → 1 ≤ c → c ≤ 4 → v' 11 = nI p → mKeep h h' M (M + 17) → MW G MX7_front (mz G d 0 0 post) 30 [some (.ref M), x] [] h' (N, 0, 0) := by
    intro x h' v' a' c p er n8 hM' hL' e10 hc1 hc4 e11 hk
    have f : (v' 10 = 0) = False := by
      rw [e10]
      simp (disch := omega) only [z_nI, z_lit, z_neg, z_add, z_sub, z_mul, z_lt, z_le, z_eq, z_in, z_cl]
      exact eq_false (by omega)
    refine MW.run gd_X7_front [171] 20 ?_
    simp (disch := omega) only [↓EVi, ↓EVc, ↓ft_X7_front, ↓reduceIte, ↓EV_obs, ↓EV_obn, ↓EV_ais, ↓EV_ain, ↓EV_ob hM'.1, mdF, mRun, List.mem_cons, List.not_mem_nil, or_false, mtab_eq, Nat.reduceEqDiff, Nat.zero_add, hd1, f, mset2, b10, b00, not_true_eq_false, not_false_eq_true, true_implies, false_implies, implies_true, and_true, true_and, Nat.le_refl, true_or, or_true, eq_self, List.length_cons, List.length_nil, Nat.reduceAdd, Nat.reduceLT, Nat.reduceLeDiff]
    exact W171 x h' v' a' c p er n8 hM' hL' e10 hc1 hc4 e11 hk
  have W145 : ∀ (x : Option Value) (h' : mH) (v' : Nat → Int32) (a' : Nat → Nat → Int32) (c p : Nat), r0 = .inl (c, p) → ¬ S.1.length = 8 → ModelC h' G M v' a' → MRel v' a' S → v' 10 = nI c → 1 ≤ c → c ≤ 4 → v' 11 = nI p → mKeep h h' M (M + 17) → MW G MX7_front (mz G d 0 0 post) 145 [some (.ref M), x] [] h' (N, 0, 0) := by
    intro x h' v' a' c p er n8 hM' hL' e10 hc1 hc4 e11 hk
    have f : ¬ v' 10 ≤ 0 := by
      rw [e10]
      simp (disch := omega) only [z_nI, z_lit, z_neg, z_add, z_sub, z_mul, z_lt, z_le, z_eq, z_in, z_cl]
      omega
    refine MW.run gd_X7_front [30] 20 ?_
    simp (disch := omega) only [↓EVi, ↓EVc, ↓ft_X7_front, ↓reduceIte, ↓EV_obs, ↓EV_obn, ↓EV_ais, ↓EV_ain, ↓EV_ob hM'.1, mdF, mRun, List.mem_cons, List.not_mem_nil, or_false, mtab_eq, Nat.reduceEqDiff, Nat.zero_add, hd1, mset2, b10, b00, not_true_eq_false, not_false_eq_true, true_implies, false_implies, implies_true, and_true, true_and, Nat.le_refl, true_or, or_true, eq_self, List.length_cons, List.length_nil, Nat.reduceAdd, Nat.reduceLT, Nat.reduceLeDiff]
    refine m_next (T := S.2.1) (p0 := 0) (by omega) hM' ⟨hL'.2.2.1, hL'.2.2.2.1, h120, hI.2.2.2.1⟩ (fun z => absurd (by rw [z]; decide) f) (fun _ => ?_) (fun z => absurd (by rw [z]; decide) f) (fun z => absurd z f)
    simp (disch := omega) only [↓EVi, ↓EVc, ↓ft_X7_front, ↓reduceIte, ↓EV_obs, ↓EV_obn, ↓EV_ais, ↓EV_ain, mdF, mRun, List.mem_cons, List.not_mem_nil, or_false, mtab_eq, Nat.reduceEqDiff, Nat.zero_add, hd1, mset2, b10, b00, not_true_eq_false, not_false_eq_true, true_implies, false_implies, implies_true, and_true, true_and, Nat.le_refl, true_or, or_true, eq_self, List.length_cons, List.length_nil, Nat.reduceAdd, Nat.reduceLT, Nat.reduceLeDiff]
    exact W30 x h' v' a' c p er n8 hM' hL' e10 hc1 hc4 e11 hk
  have W129 : ∀ (x : Option Value) (h' : mH) (v' : Nat → Int32) (a' : Nat → Nat → Int32) (c p : Nat), r0 = .inl (c, p) → ¬ S.1.length = 8 → ModelC h' G M v' a' → MRel v' a' S → v' 10 = nI c → 1 ≤ c → c ≤ 4 → v' 11 = nI p → mKeep h h' M (M + 17) → MW G MX7_front (mz G d 0 0 post) 129 [some (.ref M), x] [] h' (N, 0, 0) := by
    intro x h' v' a' c p er n8 hM' hL' e10 hc1 hc4 e11 hk
    have f : (v' 10 = 0) = False := by
      rw [e10]
      simp (disch := omega) only [z_nI, z_lit, z_neg, z_add, z_sub, z_mul, z_lt, z_le, z_eq, z_in, z_cl]
      exact eq_false (by omega)
    refine MW.run gd_X7_front [145] 20 ?_
    simp (disch := omega) only [↓EVi, ↓EVc, ↓ft_X7_front, ↓reduceIte, ↓EV_obs, ↓EV_obn, ↓EV_ais, ↓EV_ain, ↓EV_ob hM'.1, mdF, mRun, List.mem_cons, List.not_mem_nil, or_false, mtab_eq, Nat.reduceEqDiff, Nat.zero_add, hd1, f, mset2, b10, b00, not_true_eq_false, not_false_eq_true, true_implies, false_implies, implies_true, and_true, true_and, Nat.le_refl, true_or, or_true, eq_self, List.length_cons, List.length_nil, Nat.reduceAdd, Nat.reduceLT, Nat.reduceLeDiff]
    exact W145 x h' v' a' c p er n8 hM' hL' e10 hc1 hc4 e11 hk
  have W85 : ∀ (x : Option Value) (h' : mH) (v' : Nat → Int32) (a' : Nat → Nat → Int32) (c p : Nat), r0 = .inl (c, p) → ¬ S.1.length = 8 → ModelC h' G M v' a' → MRel v' a' S → v' 10 = nI c → 1 ≤ c → c ≤ 4 → v' 11 = nI p → mKeep h h' M (M + 17) → MW G MX7_front (mz G d 0 0 post) 85 [some (.ref M), x] [] h' (N, 0, 0) := by
    intro x h' v' a' c p er n8 hM' hL' e10 hc1 hc4 e11 hk
    have f : ¬ v' 10 ≤ 0 := by
      rw [e10]
      simp (disch := omega) only [z_nI, z_lit, z_neg, z_add, z_sub, z_mul, z_lt, z_le, z_eq, z_in, z_cl]
      omega
    have f2 : (v' 10 = 0) = False := by
      rw [e10]
      simp (disch := omega) only [z_nI, z_lit, z_neg, z_add, z_sub, z_mul, z_lt, z_le, z_eq, z_in, z_cl]
      exact eq_false (by omega)
    refine MW.run gd_X7_front [129] 20 ?_
    simp (disch := omega) only [↓EVi, ↓EVc, ↓ft_X7_front, ↓reduceIte, ↓EV_obs, ↓EV_obn, ↓EV_ais, ↓EV_ain, ↓EV_ob hM'.1, mdF, mRun, List.mem_cons, List.not_mem_nil, or_false, mtab_eq, Nat.reduceEqDiff, Nat.zero_add, hd1, mset2, b10, b00, not_true_eq_false, not_false_eq_true, true_implies, false_implies, implies_true, and_true, true_and, Nat.le_refl, true_or, or_true, eq_self, List.length_cons, List.length_nil, Nat.reduceAdd, Nat.reduceLT, Nat.reduceLeDiff]
    refine m_next (T := S.2.1) (p0 := 0) (by omega) hM' ⟨hL'.2.2.1, hL'.2.2.2.1, h120, hI.2.2.2.1⟩ (fun z => absurd (by rw [z]; decide) f) (fun _ => ?_) (fun z => absurd (by rw [z]; decide) f) (fun z => absurd z f)
    simp (disch := omega) only [↓EVi, ↓EVc, ↓ft_X7_front, ↓reduceIte, ↓EV_obs, ↓EV_obn, ↓EV_ais, ↓EV_ain, ↓EV_ob hM'.1, mdF, mRun, List.mem_cons, List.not_mem_nil, or_false, mtab_eq, Nat.reduceEqDiff, Nat.zero_add, hd1, f2, mset2, b10, b00, not_true_eq_false, not_false_eq_true, true_implies, false_implies, implies_true, and_true, true_and, Nat.le_refl, true_or, or_true, eq_self, List.length_cons, List.length_nil, Nat.reduceAdd, Nat.reduceLT, Nat.reduceLeDiff]
    exact W129 x h' v' a' c p er n8 hM' hL' e10 hc1 hc4 e11 hk
  -- a fault told now
  have fl : ∀ (k p : Nat) (h' : mH) (v' : Nat → Int32) (a' : Nat → Nat → Int32), ModelC h' G M v' a' → MRel v' a' S → v' 10 = 0 → v' 13 = nI p → mKeep h h' M (M + 17) → ∀ post' : Option Value → mH → Prop, (∀ h2 v2, ModelC h2 G M v2 a' → MRel v2 a' S → v2 10 = nI k → v2 11 = nI p → mKeep h h2 M (M + 17) → post' none h2) → MC G MX7_fails (d - 1) 0 0 [.ref M, .int (nI k)] h' N post' := by
    intro k p h' v' a' hM' hL' e10 e13 hk post' hq
    refine m_fails hM' (fun z => absurd e10 z) (fun _ h4 hM4 hk4 => hq h4 _ hM4 (MRel_congr hL' (fun j hj => by rw [pk_un (by omega), pk_un (by omega)]) (fun _ _ => rfl)) (by rw [pk_un (by decide), pk_us]) (by rw [pk_us]; exact e13) (mKeep_trans hk hk4))
  refine MC.of (L0 := [some (.ref M), none]) gd_X7_front (Nat.le_of_ble_eq_true rfl) rfl (MW.run gd_X7_front [30] 30 ?_)
  simp (disch := omega) only [↓EVi, ↓EVc, ↓ft_X7_front, ↓reduceIte, ↓EV_obs, ↓EV_obn, ↓EV_ais, ↓EV_ain, ↓EV_ob h0, mdF, mRun, List.mem_cons, List.not_mem_nil, or_false, mtab_eq, Nat.reduceEqDiff, Nat.zero_add, hd1, mset2, b10, b00, not_true_eq_false, not_false_eq_true, true_implies, false_implies, implies_true, and_true, true_and, Nat.le_refl, true_or, or_true, eq_self, List.length_cons, List.length_nil, Nat.reduceAdd, Nat.reduceLT, Nat.reduceLeDiff]
  refine ⟨fun c => ?_, fun c => ?_⟩
  case refine_2 =>
    rw [if_pos (e8.mp (Classical.not_not.mp c))] at hp
    exact hp h hR0 mKeep_rfl
  have n8 : ¬ S.1.length = 8 := fun z => c (e8.mpr z)
  refine c_begin (ModelC_v (v' := upd (upd v 10 0) 12 0) hM) (fun h1 v1 hM1 hB1 hv1 hk1 => ?_)
  simp (disch := omega) only [↓EVi, ↓EVc, ↓ft_X7_front, ↓reduceIte, ↓EV_obs, ↓EV_obn, ↓EV_ais, ↓EV_ain, ↓EV_ob hM1.1, mdF, mRun, List.mem_cons, List.not_mem_nil, or_false, mtab_eq, Nat.reduceEqDiff, Nat.zero_add, hd1, mset2, b10, b00, not_true_eq_false, not_false_eq_true, true_implies, false_implies, implies_true, and_true, true_and, Nat.le_refl, true_or, or_true, eq_self, List.length_cons, List.length_nil, Nat.reduceAdd, Nat.reduceLT, Nat.reduceLeDiff]
  have hL1 : MRel v1 a S := MRel_congr hL (fun k hk => by rw [hv1 k (by omega) (by omega) (by omega), pk_un (by omega), pk_un (by omega)]) (fun _ _ => rfl)
  have hk1' : mKeep h h1 M (M + 17) := mKeep_trans (fun z hz => mset_ne (by omega)) hk1
  have z10 : v1 10 = 0 := by rw [hv1 10 (by decide) (by decide) (by decide), pk_un (by decide), pk_us]
  have z12 : v1 12 = 0 := by rw [hv1 12 (by decide) (by decide) (by decide), pk_us]
  have tr : ∀ {v' : Nat → Int32} {a' : Nat → Nat → Int32}, MRel v' a' S → tapR v' a' S.2.1 := fun q => ⟨q.2.2.1, q.2.2.2.1, h120, hI.2.2.2.1⟩
  refine m_next (T := S.2.1) (p0 := 0) (by omega) hM1 (tr hL1) (fun _ => ⟨z12, Nat.zero_le _⟩) (fun z => absurd (by rw [z10]; decide) z) (fun _ h2 v2 hM2 hv2 htk hk2 => ?_) (fun _ => z10)
  simp (disch := omega) only [↓EVi, ↓EVc, ↓ft_X7_front, ↓reduceIte, ↓EV_obs, ↓EV_obn, ↓EV_ais, ↓EV_ain, ↓EV_ob hM2.1, mdF, mRun, List.mem_cons, List.not_mem_nil, or_false, mtab_eq, Nat.reduceEqDiff, Nat.zero_add, hd1, mset2, b10, b00, not_true_eq_false, not_false_eq_true, true_implies, false_implies, implies_true, and_true, true_and, Nat.le_refl, true_or, or_true, eq_self, List.length_cons, List.length_nil, Nat.reduceAdd, Nat.reduceLT, Nat.reduceLeDiff]
  refine MW.rept (fun n L h' => ∃ v' a' es p0 x1, L = [some (.ref M), x1] ∧ ModelC h' G M v' a' ∧ bldR v' a' es ∧ MRel v' a' S ∧ p0 ≤ S.2.1.length ∧ tokV v' S.2.1 (skp S.2.1 p0) ∧ n = 31 - es.length ∧ r0 = prs S.2.1 (31 - es.length) p0 es ∧ mKeep h h' M (M + 17)) ?_ 31 _ _ ⟨v2, a, [], 0, none, rfl, hM2, ?_, MRel_congr hL1 (fun k hk => hv2 k (by omega)) (fun _ _ => rfl), Nat.zero_le _, htk, rfl, hr0.symm, mKeep_trans hk1' hk2⟩
  case refine_2 =>
    obtain ⟨b1, b2, b3, b4⟩ := hB1
    exact ⟨⟨by rw [hv2 4 (by decide)]; exact b1.1, b1.2⟩, by rw [hv2 16 (by decide)]; exact b2, by rw [hv2 17 (by decide)]; exact b3, b4⟩
  rintro n L h' ⟨v', a', es, p0, x1, rfl, hM', hB, hL', hp0, htk, hn, hpr, hk⟩ ih
  have b := vld_bd hB.2.2.2
  have hsk := skp_le hp0
  have tf := tokR_f hsk
  obtain ⟨k13, k3, kn3⟩ := htk
  rw [show 31 - es.length = (30 - es.length) + 1 by omega, prs_succ] at hpr
  by_cases c3 : (tokR S.2.1 (skp S.2.1 p0)).1 = 3
  · obtain ⟨w10, w11⟩ := k3 c3
    unfold prsB at hpr
    rw [if_neg (by omega), if_neg (by omega), if_pos c3] at hpr
    exact W30 x1 h' v' a' 1 _ hpr n8 hM' hL' w10 (by omega) (by omega) w11 hk
  obtain ⟨w10, w14, w12, w15⟩ := kn3 c3
  have f10 : (v' 10 = 0) = True := eq_true w10
  have e4 : (v' 4 = 0) ↔ es = [] := by
    rw [hB.1.1]
    have : (nI es.length = 0) ↔ es.length = 0 := nI_eq (b := 0) (by omega) (by omega)
    rw [this, List.length_eq_zero_iff]
  have e14 : ∀ k : Nat, k < 4 → ((v' 14 = nI k) ↔ (tokR S.2.1 (skp S.2.1 p0)).1 = k) := by
    intro k hk4
    rw [w14, nI_eq (by omega) (by omega)]
  have e0 : (v' 14 = 0) ↔ _ := e14 0 (by omega)
  have e1 : (v' 14 = 1) ↔ _ := e14 1 (by omega)
  by_cases c0 : (tokR S.2.1 (skp S.2.1 p0)).1 = 0 ∧ es ≠ []
  · -- the text has ended
    have f14 : (v' 14 = 0) = True := eq_true (e0.mpr c0.1)
    have f4 : (v' 4 = 0) = False := eq_false (fun z => c0.2 (e4.mp z))
    unfold prsB at hpr
    rw [if_pos c0.1] at hpr
    refine MW.run1 gd_X7_front [30, 171] 60 ?_
    simp (disch := omega) only [↓EVi, ↓EVc, ↓ft_X7_front, ↓reduceIte, ↓EV_obs, ↓EV_obn, ↓EV_ais, ↓EV_ain, ↓EV_ob hM'.1, mdF, mRun, List.mem_cons, List.not_mem_nil, or_false, mtab_eq, Nat.reduceEqDiff, Nat.zero_add, hd1, f10, f14, f4, mset2, b10, b00, not_true_eq_false, not_false_eq_true, true_implies, false_implies, implies_true, and_true, true_and, Nat.le_refl, true_or, or_true, eq_self, List.length_cons, List.length_nil, Nat.reduceAdd, Nat.reduceLT, Nat.reduceLeDiff]
    have e16 : (v' 16 ≤ 0) ↔ ahL es = 0 := by
      rw [hB.2.1]
      simp (disch := omega) only [z_nI, z_lit, z_neg, z_add, z_sub, z_mul, z_lt, z_le, z_eq, z_in, z_cl]
      omega
    refine ⟨fun c16 => ?_, fun c16 => ?_⟩
    · have c16' := e16.mp c16
      rw [if_pos ⟨c0.2, c16'⟩] at hpr
      rw [if_neg n8, hpr] at hp
      refine MW.run gd_X7_front [] 60 ?_
      simp (disch := omega) only [↓EVi, ↓EVc, ↓ft_X7_front, ↓reduceIte, ↓EV_obs, ↓EV_obn, ↓EV_ais, ↓EV_ain, ↓EV_ob hM'.1, mdF, mRun, List.mem_cons, List.not_mem_nil, or_false, mtab_eq, Nat.reduceEqDiff, Nat.zero_add, hd1, mset2, b10, b00, not_true_eq_false, not_false_eq_true, true_implies, false_implies, implies_true, and_true, true_and, Nat.le_refl, true_or, or_true, eq_self, List.length_cons, List.length_nil, Nat.reduceAdd, Nat.reduceLT, Nat.reduceLeDiff]
      have f10' : (v' 10 ≤ 0) = True := eq_true (by rw [w10]; decide)
      refine ⟨fun _ => ?_, fun z => absurd (by rw [w10]; decide) z⟩
      have hM3 := ModelC_v (v' := upd (upd v' 8 0) 9 (v' 10)) hM'
      refine M_added (S := (S.1, [], 0, S.2.2.2)) (by omega) ⟨hI.1, hI.2.1, Nat.zero_le _, fun i hi => absurd hi (Nat.not_lt_zero i), Nat.zero_le _, hI.2.2.2.2.2⟩ hM3 ⟨by rw [pk_un (by decide), pk_un (by decide)]; exact hL'.1, hL'.2.1, by rw [pk_un (by decide), pk_us]; rfl, fun i hi => absurd hi (Nat.not_lt_zero i), by rw [pk_us]; exact w10, hL'.2.2.2.2.2⟩ ⟨by rw [pk_un (by decide), pk_un (by decide)]; exact hB.1.1, hB.1.2⟩ b.1 (by show S.1.length < 8; omega) (fun h3 hR3 hk3 => ?_)
      simp (disch := omega) only [↓EVi, ↓EVc, ↓ft_X7_front, ↓reduceIte, ↓EV_obs, ↓EV_obn, ↓EV_ais, ↓EV_ain, mdF, mRun, List.mem_cons, List.not_mem_nil, or_false, mtab_eq, Nat.reduceEqDiff, Nat.zero_add, hd1, mset2, b10, b00, not_true_eq_false, not_false_eq_true, true_implies, false_implies, implies_true, and_true, true_and, Nat.le_refl, true_or, or_true, eq_self, List.length_cons, List.length_nil, Nat.reduceAdd, Nat.reduceLT, Nat.reduceLeDiff]
      exact hp h3 hR3 (mKeep_trans hk (mKeep_trans (fun z hz => mset_ne (by omega)) hk3))
    · have c16' : ¬ ahL es = 0 := fun z => c16 (e16.mpr z)
      rw [if_neg (fun z => c16' z.2)] at hpr
      refine fl 2 _ h' v' a' hM' hL' w10 k13 hk _ (fun h3 v3 hM3 hL3 q10 q11 hk3 => ?_)
      simp (disch := omega) only [↓EVi, ↓EVc, ↓ft_X7_front, ↓reduceIte, ↓EV_obs, ↓EV_obn, ↓EV_ais, ↓EV_ain, mdF, mRun, List.mem_cons, List.not_mem_nil, or_false, mtab_eq, Nat.reduceEqDiff, Nat.zero_add, hd1, mset2, b10, b00, not_true_eq_false, not_false_eq_true, true_implies, false_implies, implies_true, and_true, true_and, Nat.le_refl, true_or, or_true, eq_self, List.length_cons, List.length_nil, Nat.reduceAdd, Nat.reduceLT, Nat.reduceLeDiff]
      exact W171 x1 h3 v3 a' 2 _ hpr n8 hM3 hL3 q10 (by omega) (by omega) q11 hk3
  -- an event is read
  have body : MW G MX7_front (mz G d 0 0 post) 51 [some (.ref M), x1] [] h' (N, 0, 0) := by
    refine MW.run gd_X7_front [30, 85] 60 ?_
    by_cases c1 : (tokR S.2.1 (skp S.2.1 p0)).1 = 1
    case neg =>
      have f1 : (v' 14 = 1) = False := eq_false (fun z => c1 (e1.mp z))
      simp (disch := omega) only [↓EVi, ↓EVc, ↓ft_X7_front, ↓reduceIte, ↓EV_obs, ↓EV_obn, ↓EV_ais, ↓EV_ain, ↓EV_ob hM'.1, mdF, mRun, List.mem_cons, List.not_mem_nil, or_false, mtab_eq, Nat.reduceEqDiff, Nat.zero_add, hd1, f1, mset2, b10, b00, not_true_eq_false, not_false_eq_true, true_implies, false_implies, implies_true, and_true, true_and, Nat.le_refl, true_or, or_true, eq_self, List.length_cons, List.length_nil, Nat.reduceAdd, Nat.reduceLT, Nat.reduceLeDiff]
      refine fl 2 _ h' v' a' hM' hL' w10 k13 hk _ (fun h3 v3 hM3 hL3 q10 q11 hk3 => ?_)
      simp (disch := omega) only [↓EVi, ↓EVc, ↓ft_X7_front, ↓reduceIte, ↓EV_obs, ↓EV_obn, ↓EV_ais, ↓EV_ain, mdF, mRun, List.mem_cons, List.not_mem_nil, or_false, mtab_eq, Nat.reduceEqDiff, Nat.zero_add, hd1, mset2, b10, b00, not_true_eq_false, not_false_eq_true, true_implies, false_implies, implies_true, and_true, true_and, Nat.le_refl, true_or, or_true, eq_self, List.length_cons, List.length_nil, Nat.reduceAdd, Nat.reduceLT, Nat.reduceLeDiff]
      refine W85 _ h3 v3 a' 2 _ ?_ n8 hM3 hL3 q10 (by omega) (by omega) q11 hk3
      rw [hpr]
      unfold prsB
      by_cases cz : (tokR S.2.1 (skp S.2.1 p0)).1 = 0
      · rw [if_pos cz, if_neg (fun z => c0 ⟨cz, z.1⟩)]
      · rw [if_neg cz, if_neg c1, if_neg c3]
    have f1 : (v' 14 = 1) = True := eq_true (e1.mpr c1)
    have w15' : v' 15 = nI (tokR S.2.1 (skp S.2.1 p0)).2.1 := w15.resolve_left (by omega)
    have k2 := tf.2.2.2 c1
    unfold prsB at hpr
    rw [if_neg (by omega), if_pos c1] at hpr
    simp (disch := omega) only [↓EVi, ↓EVc, ↓ft_X7_front, ↓reduceIte, ↓EV_obs, ↓EV_obn, ↓EV_ais, ↓EV_ain, ↓EV_ob hM'.1, mdF, mRun, List.mem_cons, List.not_mem_nil, or_false, mtab_eq, Nat.reduceEqDiff, Nat.zero_add, hd1, f1, mset2, b10, b00, not_true_eq_false, not_false_eq_true, true_implies, false_implies, implies_true, and_true, true_and, Nat.le_refl, true_or, or_true, eq_self, List.length_cons, List.length_nil, Nat.reduceAdd, Nat.reduceLT, Nat.reduceLeDiff]
    refine m_isTooMuch hM' ?_
    have er : (v' 4 = 30 ∨ (v' 15 = 1 ∧ v' 17 = 12) ∨ (v' 15 = 0 ∧ 10 < v' 16 + 2)) ↔ ¬ roomL es (tokR S.2.1 (skp S.2.1 p0)).2.1 := by
      rw [hB.1.1, hB.2.1, hB.2.2.1, w15']
      unfold roomL
      generalize (tokR S.2.1 (skp S.2.1 p0)).2.1 = kk at *
      simp (disch := omega) only [z_nI, z_lit, z_neg, z_add, z_sub, z_mul, z_lt, z_le, z_eq, z_in, z_cl]
      omega
    by_cases cr : roomL es (tokR S.2.1 (skp S.2.1 p0)).2.1
    case neg =>
      rw [if_pos (er.mpr cr)]
      simp (disch := omega) only [↓EVi, ↓EVc, ↓ft_X7_front, ↓reduceIte, ↓EV_obs, ↓EV_obn, ↓EV_ais, ↓EV_ain, ↓EV_ob hM'.1, mdF, mRun, List.mem_cons, List.not_mem_nil, or_false, mtab_eq, Nat.reduceEqDiff, Nat.zero_add, hd1, mset2, b10, b00, not_true_eq_false, not_false_eq_true, true_implies, false_implies, implies_true, and_true, true_and, Nat.le_refl, true_or, or_true, eq_self, List.length_cons, List.length_nil, Nat.reduceAdd, Nat.reduceLT, Nat.reduceLeDiff]
      refine fl 4 _ h' v' a' hM' hL' w10 k13 hk _ (fun h3 v3 hM3 hL3 q10 q11 hk3 => ?_)
      simp (disch := omega) only [↓EVi, ↓EVc, ↓ft_X7_front, ↓reduceIte, ↓EV_obs, ↓EV_obn, ↓EV_ais, ↓EV_ain, mdF, mRun, List.mem_cons, List.not_mem_nil, or_false, mtab_eq, Nat.reduceEqDiff, Nat.zero_add, hd1, mset2, b10, b00, not_true_eq_false, not_false_eq_true, true_implies, false_implies, implies_true, and_true, true_and, Nat.le_refl, true_or, or_true, eq_self, List.length_cons, List.length_nil, Nat.reduceAdd, Nat.reduceLT, Nat.reduceLeDiff]
      rw [if_neg cr] at hpr
      exact W85 _ h3 v3 a' 4 _ hpr n8 hM3 hL3 q10 (by omega) (by omega) q11 hk3
    rw [if_neg (fun z => er.mp z cr)]
    rw [if_pos cr] at hpr
    simp (disch := omega) only [↓EVi, ↓EVc, ↓ft_X7_front, ↓reduceIte, ↓EV_obs, ↓EV_obn, ↓EV_ais, ↓EV_ain, ↓EV_ob hM'.1, mdF, mRun, List.mem_cons, List.not_mem_nil, or_false, mtab_eq, Nat.reduceEqDiff, Nat.zero_add, hd1, mset2, b10, b00, not_true_eq_false, not_false_eq_true, true_implies, false_implies, implies_true, and_true, true_and, Nat.le_refl, true_or, or_true, eq_self, List.length_cons, List.length_nil, Nat.reduceAdd, Nat.reduceLT, Nat.reduceLeDiff]
    -- the number
    refine MW.run gd_X7_front [30, 129, 145] 60 ?_
    simp (disch := omega) only [↓EVi, ↓EVc, ↓ft_X7_front, ↓reduceIte, ↓EV_obs, ↓EV_obn, ↓EV_ais, ↓EV_ain, ↓EV_ob hM'.1, mdF, mRun, List.mem_cons, List.not_mem_nil, or_false, mtab_eq, Nat.reduceEqDiff, Nat.zero_add, hd1, mset2, b10, b00, not_true_eq_false, not_false_eq_true, true_implies, false_implies, implies_true, and_true, true_and, Nat.le_refl, true_or, or_true, eq_self, List.length_cons, List.length_nil, Nat.reduceAdd, Nat.reduceLT, Nat.reduceLeDiff]
    refine m_next (T := S.2.1) (p0 := (tokR S.2.1 (skp S.2.1 p0)).2.2) (by omega) hM' (tr hL') (fun _ => ⟨w12, tf.2.1⟩) (fun z => absurd (by rw [w10]; decide) z) (fun _ h3 v3 hM3 hv3 htk3 hk3 => ?_) (fun _ => w10)
    have hL3 : MRel v3 a' S := MRel_congr hL' (fun k hk => hv3 k (by omega)) (fun _ _ => rfl)
    have hB3 : bldR v3 a' es := ⟨⟨by rw [hv3 4 (by decide)]; exact hB.1.1, hB.1.2⟩, by rw [hv3 16 (by decide)]; exact hB.2.1, by rw [hv3 17 (by decide)]; exact hB.2.2.1, hB.2.2.2⟩
    obtain ⟨y13, y3, yn3⟩ := htk3
    have tf2 := tokR_f (skp_le (T := S.2.1) tf.2.1)
    generalize tokR S.2.1 (skp S.2.1 (tokR S.2.1 (skp S.2.1 p0)).2.2) = tk at *
    by_cases d3 : tk.1 = 3
    · obtain ⟨q10, q11⟩ := y3 d3
      have f10 : (v3 10 = 0) = False := eq_false (by rw [q10]; decide)
      simp (disch := omega) only [↓EVi, ↓EVc, ↓ft_X7_front, ↓reduceIte, ↓EV_obs, ↓EV_obn, ↓EV_ais, ↓EV_ain, ↓EV_ob hM3.1, mdF, mRun, List.mem_cons, List.not_mem_nil, or_false, mtab_eq, Nat.reduceEqDiff, Nat.zero_add, hd1, f10, mset2, b10, b00, not_true_eq_false, not_false_eq_true, true_implies, false_implies, implies_true, and_true, true_and, Nat.le_refl, true_or, or_true, eq_self, List.length_cons, List.length_nil, Nat.reduceAdd, Nat.reduceLT, Nat.reduceLeDiff]
      rw [if_neg (by omega), if_pos d3] at hpr
      exact W129 _ h3 v3 a' 1 _ hpr n8 hM3 hL3 q10 (by omega) (by omega) q11 (mKeep_trans hk hk3)
    obtain ⟨q10, q14, q12, q15⟩ := yn3 d3
    have f10 : (v3 10 = 0) = True := eq_true q10
    have e2 : (v3 14 = 2) ↔ tk.1 = 2 := by
      rw [q14]
      exact nI_eq (b := 2) (by omega) (by omega)
    by_cases d2 : tk.1 = 2
    case neg =>
      have f2 : (v3 14 = 2) = False := eq_false (fun z => d2 (e2.mp z))
      simp (disch := omega) only [↓EVi, ↓EVc, ↓ft_X7_front, ↓reduceIte, ↓EV_obs, ↓EV_obn, ↓EV_ais, ↓EV_ain, ↓EV_ob hM3.1, mdF, mRun, List.mem_cons, List.not_mem_nil, or_false, mtab_eq, Nat.reduceEqDiff, Nat.zero_add, hd1, f10, f2, mset2, b10, b00, not_true_eq_false, not_false_eq_true, true_implies, false_implies, implies_true, and_true, true_and, Nat.le_refl, true_or, or_true, eq_self, List.length_cons, List.length_nil, Nat.reduceAdd, Nat.reduceLT, Nat.reduceLeDiff]
      rw [if_neg d2, if_neg d3] at hpr
      refine fl 2 _ h3 v3 a' hM3 hL3 q10 y13 (mKeep_trans hk hk3) _ (fun h4 v4 hM4 hL4 u10 u11 hk4 => ?_)
      simp (disch := omega) only [↓EVi, ↓EVc, ↓ft_X7_front, ↓reduceIte, ↓EV_obs, ↓EV_obn, ↓EV_ais, ↓EV_ain, mdF, mRun, List.mem_cons, List.not_mem_nil, or_false, mtab_eq, Nat.reduceEqDiff, Nat.zero_add, hd1, mset2, b10, b00, not_true_eq_false, not_false_eq_true, true_implies, false_implies, implies_true, and_true, true_and, Nat.le_refl, true_or, or_true, eq_self, List.length_cons, List.length_nil, Nat.reduceAdd, Nat.reduceLT, Nat.reduceLeDiff]
      exact W129 _ h4 v4 a' 2 _ hpr n8 hM4 hL4 u10 (by omega) (by omega) u11 hk4
    have f2 : (v3 14 = 2) = True := eq_true (e2.mpr d2)
    have q15' := q15.resolve_left (by omega)
    rw [if_pos d2] at hpr
    simp (disch := omega) only [↓EVi, ↓EVc, ↓ft_X7_front, ↓reduceIte, ↓EV_obs, ↓EV_obn, ↓EV_ais, ↓EV_ain, ↓EV_ob hM3.1, mdF, mRun, List.mem_cons, List.not_mem_nil, or_false, mtab_eq, Nat.reduceEqDiff, Nat.zero_add, hd1, f10, f2, mset2, b10, b00, not_true_eq_false, not_false_eq_true, true_implies, false_implies, implies_true, and_true, true_and, Nat.le_refl, true_or, or_true, eq_self, List.length_cons, List.length_nil, Nat.reduceAdd, Nat.reduceLT, Nat.reduceLeDiff]
    refine m_hasPlace (by omega) hM3 ?_
    have om := okAt_model (es := es) (k := v' 15) (p := v3 15) hB.2.2.2
    have eo : okAt es (v' 15) (v3 15) ↔ okEv es (tokR S.2.1 (skp S.2.1 p0)).2.1 tk.2.1 := by
      rw [w15', q15']
      constructor
      · intro z
        have := (okAt_small hB.2.2.2 z).2.2
        rw [nI_clamp (by omega), nI_clamp (by omega)] at this
        exact this
      · exact fun z => ⟨_, _, rfl, rfl, z⟩
    rw [← hB3.1.1, ← hB3.2.1, ← hB3.2.2.1] at om
    have g1 : 0 ≤ v' 15 ∧ v' 15 ≤ 2 := by
      rw [w15']
      simp (disch := omega) only [z_nI, z_lit, z_neg, z_add, z_sub, z_mul, z_lt, z_le, z_eq, z_in, z_cl]
      omega
    have g2 : ¬ (v3 4 = 30 ∨ (v' 15 = 1 ∧ v3 17 = 12) ∨ (v' 15 = 0 ∧ 10 < v3 16 + 2)) := by
      rw [hv3 4 (by decide), hv3 16 (by decide), hv3 17 (by decide)]
      exact fun z => er.mp z cr
    by_cases d4 : 0 ≤ v3 15 ∧ v3 15 ≤ (if v' 15 = 0 then v3 16 else v3 16 - 2)
    case neg =>
      rw [if_neg d4]
      have no : ¬ okEv es (tokR S.2.1 (skp S.2.1 p0)).2.1 tk.2.1 := fun z => d4 (om.mp (eo.mpr z)).2.2
      simp (disch := omega) only [↓EVi, ↓EVc, ↓ft_X7_front, ↓reduceIte, ↓EV_obs, ↓EV_obn, ↓EV_ais, ↓EV_ain, ↓EV_ob hM3.1, mdF, mRun, List.mem_cons, List.not_mem_nil, or_false, mtab_eq, Nat.reduceEqDiff, Nat.zero_add, hd1, mset2, b10, b00, not_true_eq_false, not_false_eq_true, true_implies, false_implies, implies_true, and_true, true_and, Nat.le_refl, true_or, or_true, eq_self, List.length_cons, List.length_nil, Nat.reduceAdd, Nat.reduceLT, Nat.reduceLeDiff]
      rw [if_neg no] at hpr
      refine fl 3 _ h3 v3 a' hM3 hL3 q10 y13 (mKeep_trans hk hk3) _ (fun h4 v4 hM4 hL4 u10 u11 hk4 => ?_)
      simp (disch := omega) only [↓EVi, ↓EVc, ↓ft_X7_front, ↓reduceIte, ↓EV_obs, ↓EV_obn, ↓EV_ais, ↓EV_ain, mdF, mRun, List.mem_cons, List.not_mem_nil, or_false, mtab_eq, Nat.reduceEqDiff, Nat.zero_add, hd1, mset2, b10, b00, not_true_eq_false, not_false_eq_true, true_implies, false_implies, implies_true, and_true, true_and, Nat.le_refl, true_or, or_true, eq_self, List.length_cons, List.length_nil, Nat.reduceAdd, Nat.reduceLT, Nat.reduceLeDiff]
      exact W129 _ h4 v4 a' 3 _ hpr n8 hM4 hL4 u10 (by omega) (by omega) u11 hk4
    rw [if_pos d4]
    have ok := om.mpr ⟨g1, g2, d4⟩
    rw [if_pos (eo.mp ok)] at hpr
    simp (disch := omega) only [↓EVi, ↓EVc, ↓ft_X7_front, ↓reduceIte, ↓EV_obs, ↓EV_obn, ↓EV_ais, ↓EV_ain, ↓EV_ob hM3.1, mdF, mRun, List.mem_cons, List.not_mem_nil, or_false, mtab_eq, Nat.reduceEqDiff, Nat.zero_add, hd1, mset2, b10, b00, not_true_eq_false, not_false_eq_true, true_implies, false_implies, implies_true, and_true, true_and, Nat.le_refl, true_or, or_true, eq_self, List.length_cons, List.length_nil, Nat.reduceAdd, Nat.reduceLT, Nat.reduceLeDiff]
    refine MW.run gd_X7_front [30, 145] 60 ?_
    simp (disch := omega) only [↓EVi, ↓EVc, ↓ft_X7_front, ↓reduceIte, ↓EV_obs, ↓EV_obn, ↓EV_ais, ↓EV_ain, ↓EV_ob hM3.1, mdF, mRun, List.mem_cons, List.not_mem_nil, or_false, mtab_eq, Nat.reduceEqDiff, Nat.zero_add, hd1, f10, mset2, b10, b00, not_true_eq_false, not_false_eq_true, true_implies, false_implies, implies_true, and_true, true_and, Nat.le_refl, true_or, or_true, eq_self, List.length_cons, List.length_nil, Nat.reduceAdd, Nat.reduceLT, Nat.reduceLeDiff]
    refine c_comes (by omega) hM3 hB3 ok (fun h4 v4 a4 hM4 hB4 hv4 ha4 hk4 => ?_)
    simp (disch := omega) only [↓EVi, ↓EVc, ↓ft_X7_front, ↓reduceIte, ↓EV_obs, ↓EV_obn, ↓EV_ais, ↓EV_ain, ↓EV_ob hM4.1, mdF, mRun, List.mem_cons, List.not_mem_nil, or_false, mtab_eq, Nat.reduceEqDiff, Nat.zero_add, hd1, mset2, b10, b00, not_true_eq_false, not_false_eq_true, true_implies, false_implies, implies_true, and_true, true_and, Nat.le_refl, true_or, or_true, eq_self, List.length_cons, List.length_nil, Nat.reduceAdd, Nat.reduceLT, Nat.reduceLeDiff]
    refine MW.run gd_X7_front [30] 60 ?_
    simp (disch := omega) only [↓EVi, ↓EVc, ↓ft_X7_front, ↓reduceIte, ↓EV_obs, ↓EV_obn, ↓EV_ais, ↓EV_ain, ↓EV_ob hM4.1, mdF, mRun, List.mem_cons, List.not_mem_nil, or_false, mtab_eq, Nat.reduceEqDiff, Nat.zero_add, hd1, mset2, b10, b00, not_true_eq_false, not_false_eq_true, true_implies, false_implies, implies_true, and_true, true_and, Nat.le_refl, true_or, or_true, eq_self, List.length_cons, List.length_nil, Nat.reduceAdd, Nat.reduceLT, Nat.reduceLeDiff]
    have hL4 : MRel v4 a4 S := MRel_congr hL3 (fun k hk => hv4 k (by omega) (by omega) (by omega)) (fun k hk => ha4 k (by omega) (by omega))
    refine m_next (T := S.2.1) (p0 := tk.2.2) (by omega) hM4 (tr hL4) (fun _ => ⟨by rw [hv4 12 (by decide) (by decide) (by decide)]; exact q12, tf2.2.1⟩) (fun z => absurd (by rw [hv4 10 (by decide) (by decide) (by decide), q10]; decide) z) (fun _ h5 v5 hM5 hv5 htk5 hk5 => ?_) (fun _ => by rw [hv4 10 (by decide) (by decide) (by decide)]; exact q10)
    simp (disch := omega) only [↓EVi, ↓EVc, ↓ft_X7_front, ↓reduceIte, ↓EV_obs, ↓EV_obn, ↓EV_ais, ↓EV_ain, ↓EV_ob hM5.1, mdF, mRun, List.mem_cons, List.not_mem_nil, or_false, mtab_eq, Nat.reduceEqDiff, Nat.zero_add, hd1, mset2, b10, b00, not_true_eq_false, not_false_eq_true, true_implies, false_implies, implies_true, and_true, true_and, Nat.le_refl, true_or, or_true, eq_self, List.length_cons, List.length_nil, Nat.reduceAdd, Nat.reduceLT, Nat.reduceLeDiff]
    have er2 : (v' 15).toNatClampNeg = (tokR S.2.1 (skp S.2.1 p0)).2.1 := by rw [w15']; exact nI_clamp (by omega)
    have er3 : (v3 15).toNatClampNeg = tk.2.1 := by rw [q15']; exact nI_clamp (by omega)
    rw [er2, er3] at hB4
    refine ih (31 - (es ++ [((tokR S.2.1 (skp S.2.1 p0)).2.1, tk.2.1)]).length) _ _ ?_ ⟨v5, a4, _, tk.2.2, _, rfl, hM5, ⟨⟨by rw [hv5 4 (by decide)]; exact hB4.1.1, hB4.1.2⟩, by rw [hv5 16 (by decide)]; exact hB4.2.1, by rw [hv5 17 (by decide)]; exact hB4.2.2.1, hB4.2.2.2⟩, MRel_congr hL4 (fun k hk => hv5 k (by omega)) (fun _ _ => rfl), tf2.2.1, htk5, rfl, ?_, mKeep_trans (mKeep_trans (mKeep_trans hk hk3) hk4) hk5⟩
    · rw [List.length_append, List.length_singleton]
      omega
    · rw [hpr, List.length_append, List.length_singleton, show 31 - (es.length + 1) = 30 - es.length by omega]
  refine MW.run1 gd_X7_front [30, 51] 60 ?_
  by_cases cz : (tokR S.2.1 (skp S.2.1 p0)).1 = 0
  · have f14 : (v' 14 = 0) = True := eq_true (e0.mpr cz)
    have f4 : (v' 4 = 0) = True := eq_true (e4.mpr (Classical.not_not.mp (fun z => c0 ⟨cz, z⟩)))
    simp (disch := omega) only [↓EVi, ↓EVc, ↓ft_X7_front, ↓reduceIte, ↓EV_obs, ↓EV_obn, ↓EV_ais, ↓EV_ain, ↓EV_ob hM'.1, mdF, mRun, List.mem_cons, List.not_mem_nil, or_false, mtab_eq, Nat.reduceEqDiff, Nat.zero_add, hd1, f10, f14, f4, mset2, b10, b00, not_true_eq_false, not_false_eq_true, true_implies, false_implies, implies_true, and_true, true_and, Nat.le_refl, true_or, or_true, eq_self, List.length_cons, List.length_nil, Nat.reduceAdd, Nat.reduceLT, Nat.reduceLeDiff]
    exact body
  · have f14 : (v' 14 = 0) = False := eq_false (fun z => cz (e0.mp z))
    simp (disch := omega) only [↓EVi, ↓EVc, ↓ft_X7_front, ↓reduceIte, ↓EV_obs, ↓EV_obn, ↓EV_ais, ↓EV_ain, ↓EV_ob hM'.1, mdF, mRun, List.mem_cons, List.not_mem_nil, or_false, mtab_eq, Nat.reduceEqDiff, Nat.zero_add, hd1, f10, f14, mset2, b10, b00, not_true_eq_false, not_false_eq_true, true_implies, false_implies, implies_true, and_true, true_and, Nat.le_refl, true_or, or_true, eq_self, List.length_cons, List.length_nil, Nat.reduceAdd, Nat.reduceLT, Nat.reduceLeDiff]
    exact body
end MCS
