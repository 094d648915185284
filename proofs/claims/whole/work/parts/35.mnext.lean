/-! the model: the reader's tokens -/
def skpN (T : List Nat) : Nat → Nat → Nat
  | 0, p => p
  | n + 1, p => if p < T.length ∧ T.getD p 0 = 32 then skpN T n (p + 1) else p
def skp (T : List Nat) (p : Nat) : Nat := skpN T (T.length - p) p
theorem skp_in {T : List Nat} {p : Nat} (h : p < T.length) (h2 : T.getD p 0 = 32) : skp T p = skp T (p + 1) := by
  unfold skp
  rw [show T.length - p = (T.length - (p + 1)) + 1 by omega]
  show (if p < T.length ∧ T.getD p 0 = 32 then skpN T (T.length - (p + 1)) (p + 1) else p) = _
  rw [if_pos ⟨h, h2⟩]
theorem skp_out {T : List Nat} {p : Nat} (h : ¬ (p < T.length ∧ T.getD p 0 = 32)) : skp T p = p := by
  unfold skp
  cases hn : T.length - p with
  | zero => rfl
  | succ n =>
    show (if p < T.length ∧ T.getD p 0 = 32 then skpN T n (p + 1) else p) = _
    rw [if_neg h]
abbrev dig (T : List Nat) (p : Nat) : Prop := p < T.length ∧ 48 ≤ T.getD p 0 ∧ T.getD p 0 ≤ 57
/-- the token that begins at p: its sort (0 the end, 1 a letter, 2 a number, 3 none), its value, the place behind it -/
def tokR (T : List Nat) (p : Nat) : Nat × Nat × Nat :=
  if p < T.length then
    (if T.getD p 0 = 98 then (1, 0, p + 1) else if T.getD p 0 = 120 then (1, 1, p + 1) else if T.getD p 0 = 100 then (1, 2, p + 1)
    else if dig T p then (if dig T (p + 1) then (if dig T (p + 2) then (3, 0, p) else (2, 10 * (T.getD p 0 - 48) + (T.getD (p + 1) 0 - 48), p + 2)) else (2, T.getD p 0 - 48, p + 1)) else (3, 0, p))
  else (0, 0, p)
/-- the tape's cells -/
def tapR (v : Nat → Int32) (a : Nat → Nat → Int32) (T : List Nat) : Prop := v 8 = nI T.length ∧ (∀ i, i < T.length → a 6 i = nI (T.getD i 0)) ∧ T.length ≤ 120 ∧ ∀ i, i < T.length → T.getD i 0 < 256
def bA (T : List Nat) (p : Nat) : Int32 := if p < T.length then nI (T.getD p 0) else -4
/-- what the reader holds behind a token -/
def tokV (v : Nat → Int32) (T : List Nat) (p : Nat) : Prop := v 13 = nI p ∧ ((tokR T p).1 = 3 → v 10 = 1 ∧ v 11 = nI p) ∧ ((tokR T p).1 ≠ 3 → v 10 = 0 ∧ v 14 = nI (tokR T p).1 ∧ v 12 = nI (tokR T p).2.2 ∧ ((tokR T p).1 = 0 ∨ v 15 = nI (tokR T p).2.1))
section MCS
variable {G : mG} {d N M : Nat} {h : mH} {post : Option Value → mH → Prop}
theorem c_byteAt {v : Nat → Int32} {a : Nat → Nat → Int32} {T : List Nat} {p : Nat} {x : Int32} (hM : ModelC h G M v a) (hT : tapR v a T) (hx : x = nI p) (hp120 : p < 1000) (hp : post (some (.int (bA T p))) h) : MC G MX7_byteAt d 0 0 [.ref M, .int x] h N post := by
  subst hx
  have hl := hT.2.2.1
  refine m_byteAt hM (fun c => ?_) ?_
  · rw [hT.1, nI_leI (by omega) (by omega)] at c
    exact vp_in_nI (by omega) (by decide)
  · rw [hT.1, nI_clamp (by omega)]
    unfold bA at hp
    simp (disch := omega) only [nI_leI]
    by_cases c : p < T.length
    · rw [if_pos c] at hp
      rw [if_neg (by omega), hT.2.1 p c]
      exact hp
    · rw [if_neg c] at hp
      rw [if_pos (by omega)]
      exact hp
theorem bA_eq {T : List Nat} {p k : Nat} (hT : ∀ i, i < T.length → T.getD i 0 < 256) (hk : k < 256) : (bA T p = nI k) ↔ (p < T.length ∧ T.getD p 0 = k) := by
  unfold bA
  by_cases c : p < T.length
  · have := hT p c
    rw [if_pos c, nI_eq (by omega) (by omega)]
    exact ⟨fun z => ⟨c, z⟩, fun z => z.2⟩
  · rw [if_neg c]
    refine ⟨fun z => ?_, fun z => absurd z.1 c⟩
    simp (disch := omega) only [z_nI, z_lit, z_neg, z_add, z_sub, z_mul, z_lt, z_le, z_eq, z_in, z_cl] at z
    omega
theorem bA_no {T : List Nat} {p : Nat} (hT : ∀ i, i < T.length → T.getD i 0 < 256) : (bA T p = -4) ↔ ¬ p < T.length := by
  unfold bA
  by_cases c : p < T.length
  · have := hT p c
    rw [if_pos c]
    refine ⟨fun z => ?_, fun z => absurd c z⟩
    simp (disch := omega) only [z_nI, z_lit, z_neg, z_add, z_sub, z_mul, z_lt, z_le, z_eq, z_in, z_cl] at z
    omega
  · rw [if_neg c]
    exact ⟨fun _ => c, fun _ => rfl⟩
theorem bA_dig {T : List Nat} {p : Nat} (hT : ∀ i, i < T.length → T.getD i 0 < 256) : ((48 : Int64) ≤ (bA T p).toInt64 ∧ (bA T p).toInt64 ≤ 57) ↔ dig T p := by
  rw [show (48 : Int64) = (48 : Int32).toInt64 from rfl, show (57 : Int64) = (57 : Int32).toInt64 from rfl, toL_le, toL_le]
  unfold bA
  by_cases c : p < T.length
  · have := hT p c
    rw [if_pos c]
    simp (disch := omega) only [z_nI, z_lit, z_neg, z_add, z_sub, z_mul, z_lt, z_le, z_eq, z_in, z_cl]
    omega
  · rw [if_neg c]
    simp (disch := omega) only [z_nI, z_lit, z_neg, z_add, z_sub, z_mul, z_lt, z_le, z_eq, z_in, z_cl]
    omega
set_option maxRecDepth 10000 in
theorem m_next {v : Nat → Int32} {a : Nat → Nat → Int32} {T : List Nat} {p0 : Nat} (hd : 1 ≤ d) (hM : ModelC h G M v a) (hT : tapR v a T) (h12 : v 10 = 0 → v 12 = nI p0 ∧ p0 ≤ T.length)
    (hpW : ¬ v 10 ≤ 0 → post none h)
    (hp : v 10 = 0 → ∀ h' v', ModelC h' G M v' a → (∀ j, j ≤ 9 ∨ 16 ≤ j → v' j = v j) → tokV v' T (skp T p0) → mKeep h h' M (M + 17) → post none h') (h10 : v 10 ≤ 0 → v 10 = 0) : MC G MX7_next d 0 0 [.ref M] h N post := by
  have h0 := hM.1
  have hl := hT.2.2.1
  have h256 := hT.2.2.2
  refine MC.of (L0 := [some (.ref M), none]) gd_X7_next (Nat.le_of_ble_eq_true rfl) rfl (MW.run gd_X7_next [8] 20 ?_)
  simp (disch := omega) only [↓EVi, ↓EVc, ↓ft_X7_next, ↓reduceIte, ↓EV_obs, ↓EV_obn, ↓EV_ais, ↓EV_ain, ↓EV_ob h0, mdF, mRun, List.mem_cons, List.not_mem_nil, or_false, mtab_eq, Nat.reduceEqDiff, Nat.zero_add, hd, mset2, b10, b00, not_true_eq_false, not_false_eq_true, true_implies, false_implies, implies_true, and_true, true_and, Nat.le_refl, true_or, or_true, eq_self, List.length_cons, List.length_nil, Nat.reduceAdd, Nat.reduceLT, Nat.reduceLeDiff]
  refine ⟨fun c => ?_, fun c => hpW c⟩
  have e10 := h10 c
  obtain ⟨h12, hp0⟩ := h12 e10
  replace hp := hp e10
  refine MW.rept (fun n L h' => ∃ v' p, L = [some (.ref M), none] ∧ ModelC h' G M v' a ∧ n = T.length - p ∧ p ≤ T.length ∧ v' 12 = nI p ∧ (∀ j, j ≠ 12 → v' j = v j) ∧ skp T p0 = skp T p ∧ mKeep h h' M (M + 17)) ?_ (T.length - p0) _ _ ⟨v, p0, rfl, hM, rfl, hp0, h12, fun _ _ => rfl, rfl, mKeep_rfl⟩
  rintro n L h' ⟨v', p, rfl, hM', hn, hpl, e12, ev, hsk, hk⟩ ih
  have h0 := hM'.1
  have hT' : tapR v' a T := ⟨by rw [ev 8 (by decide)]; exact hT.1, hT.2⟩
  refine MW.run1 gd_X7_next [8, 150] 60 ?_
  simp (disch := omega) only [↓EVi, ↓EVc, ↓ft_X7_next, ↓reduceIte, ↓EV_obs, ↓EV_obn, ↓EV_ais, ↓EV_ain, ↓EV_ob h0, mdF, mRun, List.mem_cons, List.not_mem_nil, or_false, mtab_eq, Nat.reduceEqDiff, Nat.zero_add, hd, mset2, b10, b00, not_true_eq_false, not_false_eq_true, true_implies, false_implies, implies_true, and_true, true_and, Nat.le_refl, true_or, or_true, eq_self, List.length_cons, List.length_nil, Nat.reduceAdd, Nat.reduceLT, Nat.reduceLeDiff]
  refine c_byteAt hM' hT' e12 (by omega) ?_
  simp (disch := omega) only [↓EVi, ↓EVc, ↓ft_X7_next, ↓reduceIte, ↓EV_obs, ↓EV_obn, ↓EV_ais, ↓EV_ain, ↓EV_ob h0, mdF, mRun, List.mem_cons, List.not_mem_nil, or_false, mtab_eq, Nat.reduceEqDiff, Nat.zero_add, hd, mset2, b10, b00, not_true_eq_false, not_false_eq_true, true_implies, false_implies, implies_true, and_true, true_and, Nat.le_refl, true_or, or_true, eq_self, List.length_cons, List.length_nil, Nat.reduceAdd, Nat.reduceLT, Nat.reduceLeDiff]
  have e32 : (bA T p = 32) ↔ _ := bA_eq (p := p) (k := 32) h256 (by omega)
  refine ⟨fun c => ?_, fun c => ?_⟩
  case refine_2 =>
    obtain ⟨q1, q2⟩ := e32.mp (Classical.not_not.mp c)
    refine ih (T.length - (p + 1)) _ _ (by omega) ⟨_, p + 1, rfl, ModelC_v (v' := upd v' 12 (v' 12 + 1)) hM', rfl, by omega, by rw [pk_us, e12, nI_1], fun j hj => by rw [pk_un hj]; exact ev j hj, by rw [hsk, skp_in q1 q2], fun z hz => by rw [mset_ne (by omega)]; exact hk z hz⟩
  have c' : ¬ (p < T.length ∧ T.getD p 0 = 32) := fun z => c (e32.mpr z)
  have hsp : skp T p0 = p := by rw [hsk, skp_out c']
  rw [hsp] at hp
  have hM2 := ModelC_v (v' := upd v' 13 (v' 12)) hM'
  have hT2 : tapR (upd v' 13 (v' 12)) a T := ⟨by rw [pk_un (by decide)]; exact hT'.1, hT.2⟩
  refine c_byteAt hM2 hT2 e12 (by omega) ?_
  have eN := bA_no (p := p) h256
  have eb : (bA T p = 98) ↔ _ := bA_eq (p := p) (k := 98) h256 (by omega)
  have ex : (bA T p = 120) ↔ _ := bA_eq (p := p) (k := 120) h256 (by omega)
  have ed : (bA T p = 100) ↔ _ := bA_eq (p := p) (k := 100) h256 (by omega)
  have hk' : ∀ e, mKeep h (mset h' M e) M (M + 17) := fun e z hz => by rw [mset_ne (by omega)]; exact hk z hz
  -- the end
  by_cases t0 : p < T.length
  case neg =>
    have f1 : bA T p = -4 := eN.mpr t0
    have f2 : (bA T p = -4) = True := eq_true f1
    simp (disch := omega) only [↓EVi, ↓EVc, ↓ft_X7_next, ↓reduceIte, ↓EV_obs, ↓EV_obn, ↓EV_ais, ↓EV_ain, ↓EV_ob hM2.1, mdF, mRun, List.mem_cons, List.not_mem_nil, or_false, mtab_eq, Nat.reduceEqDiff, Nat.zero_add, hd, f2, mset2, b10, b00, not_true_eq_false, not_false_eq_true, true_implies, false_implies, implies_true, and_true, true_and, Nat.le_refl, true_or, or_true, eq_self, List.length_cons, List.length_nil, Nat.reduceAdd, Nat.reduceLT, Nat.reduceLeDiff]
    refine hp _ _ (ModelC_v (v' := upd (upd v' 13 (v' 12)) 14 0) hM') (fun j hj => by rw [pk_un (by omega), pk_un (by omega)]; exact ev j (by omega)) ⟨by rw [pk_un (by decide), pk_us]; exact e12, ?_, ?_⟩ (hk' _)
    · unfold tokR
      rw [if_neg t0]
      exact fun z => absurd z (by show ¬ (0 = 3); decide)
    · unfold tokR
      rw [if_neg t0]
      refine fun _ => ⟨?_, ?_, ?_, Or.inl rfl⟩
      · rw [pk_un (by decide), pk_un (by decide), ev 10 (by decide)]
        exact e10
      · rw [pk_us]
        rfl
      · rw [pk_un (by decide), pk_un (by decide)]
        exact e12
  have fN : (bA T p = -4) = False := eq_false (fun z => eN.mp z t0)
  have fin1 : ∀ (x : Int32) (k : Nat), tokR T p = (1, k, p + 1) → x = nI k → post none (mset h' M (.inr (7, mdF M (upd (upd (upd (upd v' 13 (v' 12)) 14 1) 15 x) 12 (v' 12 + 1))))) := by
    intro x k et hx
    subst hx
    refine hp _ _ (ModelC_v (v' := upd (upd (upd (upd v' 13 (v' 12)) 14 1) 15 (nI k)) 12 (v' 12 + 1)) hM') (fun j hj => by rw [pk_un (by omega), pk_un (by omega), pk_un (by omega), pk_un (by omega)]; exact ev j (by omega)) ⟨by rw [pk_un (by decide), pk_un (by decide), pk_un (by decide), pk_us]; exact e12, ?_, ?_⟩ (hk' _)
    · rw [et]
      exact fun z => absurd z (by show ¬ (1 = 3); decide)
    · rw [et]
      refine fun _ => ⟨?_, ?_, ?_, Or.inr ?_⟩
      · rw [pk_un (by decide), pk_un (by decide), pk_un (by decide), pk_un (by decide), ev 10 (by decide)]
        exact e10
      · rw [pk_un (by decide), pk_un (by decide), pk_us]
        rfl
      · rw [pk_us, e12, nI_1]
      · rw [pk_un (by decide), pk_us]
  by_cases t1 : T.getD p 0 = 98
  case pos =>
    have f1 : (bA T p = 98) = True := eq_true (eb.mpr ⟨t0, t1⟩)
    simp (disch := omega) only [↓EVi, ↓EVc, ↓ft_X7_next, ↓reduceIte, ↓EV_obs, ↓EV_obn, ↓EV_ais, ↓EV_ain, ↓EV_ob hM2.1, mdF, mRun, List.mem_cons, List.not_mem_nil, or_false, mtab_eq, Nat.reduceEqDiff, Nat.zero_add, hd, fN, f1, mset2, b10, b00, not_true_eq_false, not_false_eq_true, true_implies, false_implies, implies_true, and_true, true_and, Nat.le_refl, true_or, or_true, eq_self, List.length_cons, List.length_nil, Nat.reduceAdd, Nat.reduceLT, Nat.reduceLeDiff]
    exact fin1 0 0 (by unfold tokR; rw [if_pos t0, if_pos t1]) rfl
  have f1 : (bA T p = 98) = False := eq_false (fun z => t1 (eb.mp z).2)
  by_cases t2 : T.getD p 0 = 120
  case pos =>
    have f2 : (bA T p = 120) = True := eq_true (ex.mpr ⟨t0, t2⟩)
    simp (disch := omega) only [↓EVi, ↓EVc, ↓ft_X7_next, ↓reduceIte, ↓EV_obs, ↓EV_obn, ↓EV_ais, ↓EV_ain, ↓EV_ob hM2.1, mdF, mRun, List.mem_cons, List.not_mem_nil, or_false, mtab_eq, Nat.reduceEqDiff, Nat.zero_add, hd, fN, f1, f2, mset2, b10, b00, not_true_eq_false, not_false_eq_true, true_implies, false_implies, implies_true, and_true, true_and, Nat.le_refl, true_or, or_true, eq_self, List.length_cons, List.length_nil, Nat.reduceAdd, Nat.reduceLT, Nat.reduceLeDiff]
    exact fin1 1 1 (by unfold tokR; rw [if_pos t0, if_neg t1, if_pos t2]) rfl
  have f2 : (bA T p = 120) = False := eq_false (fun z => t2 (ex.mp z).2)
  by_cases t3 : T.getD p 0 = 100
  case pos =>
    have f3 : (bA T p = 100) = True := eq_true (ed.mpr ⟨t0, t3⟩)
    simp (disch := omega) only [↓EVi, ↓EVc, ↓ft_X7_next, ↓reduceIte, ↓EV_obs, ↓EV_obn, ↓EV_ais, ↓EV_ain, ↓EV_ob hM2.1, mdF, mRun, List.mem_cons, List.not_mem_nil, or_false, mtab_eq, Nat.reduceEqDiff, Nat.zero_add, hd, fN, f1, f2, f3, mset2, b10, b00, not_true_eq_false, not_false_eq_true, true_implies, false_implies, implies_true, and_true, true_and, Nat.le_refl, true_or, or_true, eq_self, List.length_cons, List.length_nil, Nat.reduceAdd, Nat.reduceLT, Nat.reduceLeDiff]
    exact fin1 2 2 (by unfold tokR; rw [if_pos t0, if_neg t1, if_neg t2, if_pos t3]) rfl
  have f3 : (bA T p = 100) = False := eq_false (fun z => t3 (ed.mp z).2)
  simp (disch := omega) only [↓EVi, ↓EVc, ↓ft_X7_next, ↓reduceIte, ↓EV_obs, ↓EV_obn, ↓EV_ais, ↓EV_ain, ↓EV_ob hM2.1, mdF, mRun, List.mem_cons, List.not_mem_nil, or_false, mtab_eq, Nat.reduceEqDiff, Nat.zero_add, hd, fN, f1, f2, f3, mset2, b10, b00, not_true_eq_false, not_false_eq_true, true_implies, false_implies, implies_true, and_true, true_and, Nat.le_refl, true_or, or_true, eq_self, List.length_cons, List.length_nil, Nat.reduceAdd, Nat.reduceLT, Nat.reduceLeDiff]
  refine m_in ?_
  have eD := bA_dig (p := p) h256
  simp only [eD]
  -- no token
  have fin3 : ∀ (h3 : mH) (v3 : Nat → Int32), ModelC h3 G M v3 a → (∀ j, j ≤ 9 ∨ 16 ≤ j → v3 j = v j) → v3 10 = 0 → v3 13 = nI p → (tokR T p).1 = 3 → mKeep h h3 M (M + 17) → ∀ post' : Option Value → mH → Prop, (∀ h4, post none h4 → post' none h4) → MC G MX7_fails (d - 1) 0 0 [.ref M, .int 1] h3 N post' := by
    intro h3 v3 hM3 ev3 e3 e13 et hk3 post' hpp
    refine m_fails hM3 (fun z => absurd e3 z) (fun _ h4 hM4 hk4 => hpp _ <| hp h4 _ hM4 (fun j hj => by rw [pk_un (by omega), pk_un (by omega)]; exact ev3 j hj) ⟨by rw [pk_un (by decide), pk_un (by decide)]; exact e13, fun _ => ⟨by rw [pk_un (by decide), pk_us], by rw [pk_us]; exact e13⟩, fun z => absurd et z⟩ (mKeep_trans hk3 hk4))
  by_cases t4 : dig T p
  case neg =>
    rw [if_neg t4]
    simp (disch := omega) only [↓EVi, ↓EVc, ↓ft_X7_next, ↓reduceIte, ↓EV_obs, ↓EV_obn, ↓EV_ais, ↓EV_ain, ↓EV_ob hM2.1, mdF, mRun, List.mem_cons, List.not_mem_nil, or_false, mtab_eq, Nat.reduceEqDiff, Nat.zero_add, hd, mset2, b10, b00, not_true_eq_false, not_false_eq_true, true_implies, false_implies, implies_true, and_true, true_and, Nat.le_refl, true_or, or_true, eq_self, List.length_cons, List.length_nil, Nat.reduceAdd, Nat.reduceLT, Nat.reduceLeDiff]
    refine fin3 _ _ hM2 (fun j hj => by rw [pk_un (by omega)]; exact ev j (by omega)) (by rw [pk_un (by decide), ev 10 (by decide)]; exact e10) (by rw [pk_us]; exact e12) (by unfold tokR; rw [if_pos t0, if_neg t1, if_neg t2, if_neg t3, if_neg t4]) (hk' _) _ (fun h4 hh => ?_)
    simp (disch := omega) only [↓EVi, ↓EVc, ↓ft_X7_next, ↓reduceIte, ↓EV_obs, ↓EV_obn, ↓EV_ais, ↓EV_ain, ↓EV_ob hM2.1, mdF, mRun, List.mem_cons, List.not_mem_nil, or_false, mtab_eq, Nat.reduceEqDiff, Nat.zero_add, hd, mset2, b10, b00, not_true_eq_false, not_false_eq_true, true_implies, false_implies, implies_true, and_true, true_and, Nat.le_refl, true_or, or_true, eq_self, List.length_cons, List.length_nil, Nat.reduceAdd, Nat.reduceLT, Nat.reduceLeDiff]
    exact hh
  rw [if_pos t4]
  simp (disch := omega) only [↓EVi, ↓EVc, ↓ft_X7_next, ↓reduceIte, ↓EV_obs, ↓EV_obn, ↓EV_ais, ↓EV_ain, ↓EV_ob hM2.1, mdF, mRun, List.mem_cons, List.not_mem_nil, or_false, mtab_eq, Nat.reduceEqDiff, Nat.zero_add, hd, mset2, b10, b00, not_true_eq_false, not_false_eq_true, true_implies, false_implies, implies_true, and_true, true_and, Nat.le_refl, true_or, or_true, eq_self, List.length_cons, List.length_nil, Nat.reduceAdd, Nat.reduceLT, Nat.reduceLeDiff]
  have hM3 := ModelC_v (v' := upd (upd (upd v' 13 (v' 12)) 14 2) 15 0) hM'
  refine MW.rept (fun n L h4 => ∃ v3 j, L = [some (.ref M), some (.int (bA T p))] ∧ ModelC h4 G M v3 a ∧ n = T.length - (p + j) ∧ p + j ≤ T.length ∧ (∀ i, i < j → dig T (p + i)) ∧ v3 12 = nI (p + j) ∧ v3 13 = nI p ∧ v3 14 = 2 ∧ v3 10 = 0 ∧ (∀ i, i ≤ 9 ∨ 16 ≤ i → v3 i = v i) ∧ v3 15 = nI (if j = 0 then 0 else if j = 1 then T.getD p 0 - 48 else 10 * (T.getD p 0 - 48) + (T.getD (p + 1) 0 - 48)) ∧ mKeep h h4 M (M + 17)) ?_ (T.length - p) _ _ ⟨_, 0, rfl, hM3, rfl, hpl, fun i hi => absurd hi (Nat.not_lt_zero i), e12, ?_, ?_, ?_, fun i hi => ?_, ?_, hk' _⟩
  case refine_2 =>
    rw [pk_un (by decide), pk_un (by decide), pk_us]
    exact e12
  case refine_3 => rw [pk_un (by decide), pk_us]
  case refine_4 =>
    rw [pk_un (by decide), pk_un (by decide), pk_un (by decide), ev 10 (by decide)]
    exact e10
  case refine_5 =>
    rw [pk_un (by omega), pk_un (by omega), pk_un (by omega)]
    exact ev i (by omega)
  case refine_6 =>
    rw [pk_us]
    rfl
  rintro n4 L4 h4 ⟨v4, j, rfl, hM4, hn4, hj4, hdg, w12, w13, w14, w10, wo, w15, hk4⟩ ih4
  have h0 := hM4.1
  have hT4 : tapR v4 a T := ⟨by rw [wo 8 (by decide)]; exact hT.1, hT.2⟩
  refine MW.run1 gd_X7_next [8, 150] 60 ?_
  simp (disch := omega) only [↓EVi, ↓EVc, ↓ft_X7_next, ↓reduceIte, ↓EV_obs, ↓EV_obn, ↓EV_ais, ↓EV_ain, ↓EV_ob h0, mdF, mRun, List.mem_cons, List.not_mem_nil, or_false, mtab_eq, Nat.reduceEqDiff, Nat.zero_add, hd, mset2, b10, b00, not_true_eq_false, not_false_eq_true, true_implies, false_implies, implies_true, and_true, true_and, Nat.le_refl, true_or, or_true, eq_self, List.length_cons, List.length_nil, Nat.reduceAdd, Nat.reduceLT, Nat.reduceLeDiff]
  refine c_byteAt hM4 hT4 w12 (by omega) ?_
  simp (disch := omega) only [↓EVi, ↓EVc, ↓ft_X7_next, ↓reduceIte, ↓EV_obs, ↓EV_obn, ↓EV_ais, ↓EV_ain, ↓EV_ob h0, mdF, mRun, List.mem_cons, List.not_mem_nil, or_false, mtab_eq, Nat.reduceEqDiff, Nat.zero_add, hd, mset2, b10, b00, not_true_eq_false, not_false_eq_true, true_implies, false_implies, implies_true, and_true, true_and, Nat.le_refl, true_or, or_true, eq_self, List.length_cons, List.length_nil, Nat.reduceAdd, Nat.reduceLT, Nat.reduceLeDiff]
  refine m_in ?_
  have eD4 := bA_dig (p := p + j) h256
  simp only [eD4]
  by_cases t5 : dig T (p + j)
  · rw [if_pos t5]
    simp (disch := omega) only [↓EVi, ↓EVc, ↓ft_X7_next, ↓reduceIte, ↓EV_obs, ↓EV_obn, ↓EV_ais, ↓EV_ain, ↓EV_ob h0, mdF, mRun, List.mem_cons, List.not_mem_nil, or_false, mtab_eq, Nat.reduceEqDiff, Nat.zero_add, hd, mset2, b10, b00, not_true_eq_false, not_false_eq_true, true_implies, false_implies, implies_true, and_true, true_and, Nat.le_refl, true_or, or_true, eq_self, List.length_cons, List.length_nil, Nat.reduceAdd, Nat.reduceLT, Nat.reduceLeDiff]
    have eC : (2 ≤ v4 12 - v4 13) ↔ 2 ≤ j := by
      rw [w12, w13]
      simp (disch := omega) only [z_nI, z_lit, z_neg, z_add, z_sub, z_mul, z_lt, z_le, z_eq, z_in, z_cl]
      omega
    have go : ∀ x : Int32, x = nI (if j + 1 = 0 then 0 else if j + 1 = 1 then T.getD p 0 - 48 else 10 * (T.getD p 0 - 48) + (T.getD (p + 1) 0 - 48)) → MW G MX7_next (mz G d 0 0 post) 150 [some (.ref M), some (.int (bA T p))] [] (mset h4 M (.inr (7, mdF M (upd (upd v4 15 x) 12 (v4 12 + 1))))) (N, 0, 0) := by
      intro x hx
      refine ih4 (T.length - (p + (j + 1))) _ _ (by omega) ⟨_, j + 1, rfl, ModelC_v (v' := upd (upd v4 15 x) 12 (v4 12 + 1)) hM4, rfl, by omega, fun i hi => ?_, ?_, ?_, ?_, ?_, fun i hi => ?_, ?_, fun z hz => by rw [mset_ne (by omega)]; exact hk4 z hz⟩
      · by_cases e : i = j
        · subst e
          exact t5
        · exact hdg i (by omega)
      · rw [pk_us, w12, nI_1]
        rfl
      · rw [pk_un (by decide), pk_un (by decide)]
        exact w13
      · rw [pk_un (by decide), pk_un (by decide)]
        exact w14
      · rw [pk_un (by decide), pk_un (by decide)]
        exact w10
      · rw [pk_un (by omega), pk_un (by omega)]
        exact wo i hi
      · rw [pk_un (by decide), pk_us]
        exact hx
    refine ⟨fun c5 => ?_, fun c5 => ?_⟩
    · have c5' := eC.mp c5
      refine go _ ?_
      rw [w15, if_neg (by omega), if_neg (by omega), if_neg (by omega), if_neg (by omega)]
    · have c5' : ¬ 2 ≤ j := fun z => c5 (eC.mpr z)
      refine c_byteAt hM4 hT4 w12 (by omega) ?_
      simp (disch := omega) only [↓EVi, ↓EVc, ↓ft_X7_next, ↓reduceIte, ↓EV_obs, ↓EV_obn, ↓EV_ais, ↓EV_ain, ↓EV_ob h0, mdF, mRun, List.mem_cons, List.not_mem_nil, or_false, mtab_eq, Nat.reduceEqDiff, Nat.zero_add, hd, mset2, b10, b00, not_true_eq_false, not_false_eq_true, true_implies, false_implies, implies_true, and_true, true_and, Nat.le_refl, true_or, or_true, eq_self, List.length_cons, List.length_nil, Nat.reduceAdd, Nat.reduceLT, Nat.reduceLeDiff]
      refine go _ ?_
      have l5 := h256 _ t5.1
      have e5 : bA T (p + j) = nI (T.getD (p + j) 0) := by unfold bA; rw [if_pos t5.1]
      rw [w15, e5]
      rcases (by omega : j = 0 ∨ j = 1) with rfl | rfl
      · rw [if_pos rfl, if_neg (by omega), if_pos rfl, Nat.add_zero]
        have := t4.2
        simp (disch := omega) only [z_nI, z_lit, z_neg, z_add, z_sub, z_mul, z_lt, z_le, z_eq, z_in, z_cl]
        congr 1
        omega
      · rw [if_neg (by omega), if_pos rfl, if_neg (by omega), if_neg (by omega)]
        have := t4.2
        have := t5.2
        simp (disch := omega) only [z_nI, z_lit, z_neg, z_add, z_sub, z_mul, z_lt, z_le, z_eq, z_in, z_cl]
        congr 1
        omega
  · rw [if_neg t5]
    simp (disch := omega) only [↓EVi, ↓EVc, ↓ft_X7_next, ↓reduceIte, ↓EV_obs, ↓EV_obn, ↓EV_ais, ↓EV_ain, ↓EV_ob h0, mdF, mRun, List.mem_cons, List.not_mem_nil, or_false, mtab_eq, Nat.reduceEqDiff, Nat.zero_add, hd, mset2, b10, b00, not_true_eq_false, not_false_eq_true, true_implies, false_implies, implies_true, and_true, true_and, Nat.le_refl, true_or, or_true, eq_self, List.length_cons, List.length_nil, Nat.reduceAdd, Nat.reduceLT, Nat.reduceLeDiff]
    have eC : (v4 12 - v4 13 ≤ 2) ↔ j ≤ 2 := by
      rw [w12, w13]
      simp (disch := omega) only [z_nI, z_lit, z_neg, z_add, z_sub, z_mul, z_lt, z_le, z_eq, z_in, z_cl]
      omega
    have hj0 : j ≠ 0 := by
      rintro rfl
      exact t5 t4
    refine ⟨fun c5 => ?_, fun c5 => ?_⟩
    · have c5' := eC.mp c5
      have et : tokR T p = (2, (if j = 0 then 0 else if j = 1 then T.getD p 0 - 48 else 10 * (T.getD p 0 - 48) + (T.getD (p + 1) 0 - 48)), p + j) := by
        unfold tokR
        rw [if_pos t0, if_neg t1, if_neg t2, if_neg t3, if_pos t4]
        rcases (by omega : j = 1 ∨ j = 2) with rfl | rfl
        · rw [if_neg t5]
          rfl
        · rw [if_pos (hdg 1 (by omega)), if_neg t5]
          rfl
      refine hp h4 v4 hM4 wo ⟨w13, ?_, ?_⟩ hk4
      · rw [et]
        exact fun z => absurd z (by show ¬ (2 = 3); decide)
      · rw [et]
        exact fun _ => ⟨w10, w14, w12, Or.inr w15⟩
    · have c5' : ¬ j ≤ 2 := fun z => c5 (eC.mpr z)
      refine fin3 _ _ hM4 wo w10 w13 ?_ hk4 _ (fun h5 hh => ?_)
      · unfold tokR
        rw [if_pos t0, if_neg t1, if_neg t2, if_neg t3, if_pos t4, if_pos (hdg 1 (by omega)), if_pos (hdg 2 (by omega))]
      simp (disch := omega) only [↓EVi, ↓EVc, ↓ft_X7_next, ↓reduceIte, ↓EV_obs, ↓EV_obn, ↓EV_ais, ↓EV_ain, mdF, mRun, List.mem_cons, List.not_mem_nil, or_false, mtab_eq, Nat.reduceEqDiff, Nat.zero_add, hd, mset2, b10, b00, not_true_eq_false, not_false_eq_true, true_implies, false_implies, implies_true, and_true, true_and, Nat.le_refl, true_or, or_true, eq_self, List.length_cons, List.length_nil, Nat.reduceAdd, Nat.reduceLT, Nat.reduceLeDiff]
      exact hh
end MCS
