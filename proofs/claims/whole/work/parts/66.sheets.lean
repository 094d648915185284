/-! Sheet, and the class's calls of sheets -/
theorem bm8 (n : Nat) (hn : n < 4294967296) : (Int.bmod ((n * 16777216 % 4294967296 : Nat) : Int) 4294967296) / 16777216 = Int.bmod (Int.bmod (n : Int) 4294967296) 256 := by
  simp only [Int.bmod_def]
  split <;> split <;> split <;> omega
theorem bm16 (n : Nat) (hn : n < 4294967296) : (Int.bmod ((n * 65536 % 4294967296 : Nat) : Int) 4294967296) / 65536 = Int.bmod (Int.bmod (n : Int) 4294967296) 65536 := by
  simp only [Int.bmod_def]
  split <;> split <;> split <;> omega
theorem toI (x : Int32) : x.toInt = Int.bmod (x.toBitVec.toNat : Int) 4294967296 := by
  show x.toBitVec.toInt = _
  rw [BitVec.toInt_eq_toNat_bmod]
theorem nar8 (v : Int32) : (v <<< (24 &&& 31)) >>> (24 &&& 31) = v.toInt8.toInt32 := by
  rw [← Int32.toInt_inj, pk_shr (v <<< (24 &&& 31)) (24 &&& 31) 24 (by decide), toI (v <<< (24 &&& 31)), pk_shl v (24 &&& 31) 24 (by decide), Int.shiftRight_eq_div_pow]
  have h := bm8 v.toBitVec.toNat v.toBitVec.isLt
  rw [show v.toInt8.toInt32.toInt = Int.bmod v.toInt 256 by rw [Int8.toInt_toInt32, Int32.toInt_toInt8], toI v]
  exact h
theorem nar16 (v : Int32) : (v <<< (16 &&& 31)) >>> (16 &&& 31) = v.toInt16.toInt32 := by
  rw [← Int32.toInt_inj, pk_shr (v <<< (16 &&& 31)) (16 &&& 31) 16 (by decide), toI (v <<< (16 &&& 31)), pk_shl v (16 &&& 31) 16 (by decide), Int.shiftRight_eq_div_pow]
  have h := bm16 v.toBitVec.toNat v.toBitVec.isLt
  rw [show v.toInt16.toInt32.toInt = Int.bmod v.toInt 65536 by rw [Int16.toInt_toInt32, Int32.toInt_toInt16], toI v]
  exact h
section XS
variable {G : mG} {d N B s : Nat} {sh : Sh} {S : AS} {h : mH} {post : Option Value → mH → Prop}
set_option maxRecDepth 10000 in
theorem s_renew {l n : Int32} (hS : SheetR h G s sh) (hn : ∃ r : Nat, n = nI r) (hl : l ≠ -4) (hp : ∀ h', SheetR h' G s (l, n.toNatClampNeg, fun _ => 0) → mKeep h h' s (s + 1) → post none h') (hn2 : n = nI n.toNatClampNeg) : MC G MX2_renew d 0 0 [.ref s, .int l, .int n] h N post := by
  obtain ⟨C, s0, s1, s2⟩ := hS
  refine MC.of (L0 := [some (.ref s), some (.int l), some (.int n), none]) gd_X2_renew (Nat.le_of_ble_eq_true rfl) rfl (MW.run gd_X2_renew [12] 20 ?_)
  simp (disch := omega) only [↓EVi, ↓EVc, ↓ft_X2_renew, ↓reduceIte, ↓EV_obs, ↓EV_obn, ↓EV_ais, ↓EV_ain, ↓EV_ob s0, mdF, mRun, List.mem_cons, List.not_mem_nil, or_false, mtab_eq, Nat.reduceEqDiff, Nat.zero_add, mset2, b10, b00, not_true_eq_false, not_false_eq_true, true_implies, false_implies, implies_true, and_true, true_and, Nat.le_refl, true_or, or_true, eq_self, List.length_cons, List.length_nil, Nat.reduceAdd, Nat.reduceLT, Nat.reduceLeDiff]
  have hlc : laneC l = l := if_neg hl
  refine MW.upto 62 (fun i L h' => ∃ C', L = [some (.ref s), some (.int l), some (.int n), some (.int (nI i))] ∧ h' s = some (.inr (2, [.ref (s + 1), .int l, .int n])) ∧ h' (s + 1) = some (.inl (gC G 0, 62, .inl C')) ∧ (∀ j, j < i → C' j = 0) ∧ mKeep h h' s (s + 1)) ?_ ?_ 0 _ _ (Nat.zero_le _) ⟨C, rfl, mset_same, by rw [mset_ne (by omega)]; exact s1, fun j hj => absurd hj (Nat.not_lt_zero j), fun z hz => mset_ne (by omega)⟩
  · rintro i L h' hi ⟨C', rfl, q0, q1, q2, hk⟩ ih
    have ci : (nI i).toNatClampNeg = i := nI_clamp (by omega)
    have vi : vp_in (nI i) 62 := vp_in_nI hi (by decide)
    have f1 : ((62 : Int32) ≤ nI i) = False := eq_false (by simp (disch := omega) only [z_nI, z_lit, z_neg, z_add, z_sub, z_mul, z_lt, z_le, z_eq, z_in, z_cl]; omega)
    refine MW.run1 gd_X2_renew [12] 14 ?_
    simp (disch := omega) only [↓EVk, ↓w_if_eq, ↓w_an_ite, ↓mEndK, ↓w_retK0, ↓w_fitK, ↓w_dupK, ↓w_dup2K, w_an_back, ↓EVd, ↓ft_X2_renew, ↓reduceIte, ↓EV_obs, ↓EV_obn, ↓EV_ais, ↓EV_ain, ↓EV_ob q0, ↓EV_ai q1, mdF, mRun, List.mem_cons, List.not_mem_nil, or_false, mtab_eq, Nat.reduceEqDiff, Nat.zero_add, ci, vi, f1, mset2, b10, b00, not_true_eq_false, not_false_eq_true, true_implies, false_implies, implies_true, and_true, true_and, Nat.le_refl, true_or, or_true, eq_self, List.length_cons, List.length_nil, Nat.reduceAdd, Nat.reduceLT, Nat.reduceLeDiff]
    rw [nI_1]
    refine ih _ _ ⟨upd C' i 0, rfl, by rw [mset_ne (by omega)]; exact q0, mset_same, fun j hj => ?_, fun z hz => by rw [mset_ne (by omega)]; exact hk z hz⟩
    by_cases e : j = i
    · subst e
      exact pk_us
    · rw [pk_un e]
      exact q2 j (by omega)
  · rintro L h' ⟨C', rfl, q0, q1, q2, hk⟩
    have f1 : ((62 : Int32) ≤ nI 62) = True := eq_true (by decide)
    refine MW.run1 gd_X2_renew [12] 8 ?_
    simp (disch := omega) only [↓EVk, ↓w_if_eq, ↓w_an_ite, ↓mEndK, ↓w_retK0, ↓w_fitK, ↓w_dupK, ↓w_dup2K, w_an_back, ↓EVd, ↓ft_X2_renew, ↓reduceIte, ↓EV_obs, ↓EV_obn, ↓EV_ais, ↓EV_ain, mdF, mRun, List.mem_cons, List.not_mem_nil, or_false, mtab_eq, Nat.reduceEqDiff, Nat.zero_add, f1, mset2, b10, b00, not_true_eq_false, not_false_eq_true, true_implies, false_implies, implies_true, and_true, true_and, Nat.le_refl, true_or, or_true, eq_self, List.length_cons, List.length_nil, Nat.reduceAdd, Nat.reduceLT, Nat.reduceLeDiff]
    exact hp h' ⟨C', by show h' s = some (.inr (2, [.ref (s + 1), .int (laneC l), .int (nI n.toNatClampNeg)])); rw [hlc, ← hn2]; exact q0, q1, q2⟩ hk
set_option maxRecDepth 10000 in
theorem s_narrowed {v : Int32} (hS : SheetR h G s sh) (hl : sh.1 = 0 ∨ sh.1 = 1 ∨ sh.1 = 2) (hp : post (some (.int (nar sh.1 v))) h) : MC G MX2_narrowed d 0 0 [.ref s, .int v] h N post := by
  obtain ⟨C, s0, s1, s2⟩ := hS
  have D := MW.dec (e := (.lookupswitch 34 #[(0, 28), (1, 31)], 32, 0, 0, 0, 0, 0)) (pc := 4) gd_X2_narrowed rfl
  refine MC.of (L0 := [some (.ref s), some (.int v)]) gd_X2_narrowed (Nat.le_of_ble_eq_true rfl) rfl (MW.run gd_X2_narrowed [4] 10 ?_)
  simp (disch := omega) only [↓EVi, ↓EVc, ↓ft_X2_narrowed, ↓reduceIte, ↓EV_obs, ↓EV_obn, ↓EV_ais, ↓EV_ain, ↓EV_ob s0, mdF, mRun, List.mem_cons, List.not_mem_nil, or_false, mtab_eq, Nat.reduceEqDiff, Nat.zero_add, mset2, b10, b00, not_true_eq_false, not_false_eq_true, true_implies, false_implies, implies_true, and_true, true_and, Nat.le_refl, true_or, or_true, eq_self, List.length_cons, List.length_nil, Nat.reduceAdd, Nat.reduceLT, Nat.reduceLeDiff]
  unfold nar at hp
  rcases hl with e | e | e
  · rw [e] at hp ⊢
    rw [if_pos rfl, nar8] at hp
    rw [show laneC 0 = 0 from rfl]
    refine MW.lsw (tgt := 32) (off := 28) D (by decide) rfl (by decide) (MW.run gd_X2_narrowed [] 10 ?_)
    simp (disch := omega) only [↓EVi, ↓EVc, ↓ft_X2_narrowed, ↓reduceIte, ↓EV_obs, ↓EV_obn, ↓EV_ais, ↓EV_ain, mdF, mRun, List.mem_cons, List.not_mem_nil, or_false, mtab_eq, Nat.reduceEqDiff, Nat.zero_add, mset2, b10, b00, not_true_eq_false, not_false_eq_true, true_implies, false_implies, implies_true, and_true, true_and, Nat.le_refl, true_or, or_true, eq_self, List.length_cons, List.length_nil, Nat.reduceAdd, Nat.reduceLT, Nat.reduceLeDiff]
    exact hp
  · rw [e] at hp ⊢
    rw [if_neg (by decide), if_pos rfl, nar16] at hp
    rw [show laneC 1 = 1 from rfl]
    refine MW.lsw (tgt := 35) (off := 31) D (by decide) rfl (by decide) (MW.run gd_X2_narrowed [] 10 ?_)
    simp (disch := omega) only [↓EVi, ↓EVc, ↓ft_X2_narrowed, ↓reduceIte, ↓EV_obs, ↓EV_obn, ↓EV_ais, ↓EV_ain, mdF, mRun, List.mem_cons, List.not_mem_nil, or_false, mtab_eq, Nat.reduceEqDiff, Nat.zero_add, mset2, b10, b00, not_true_eq_false, not_false_eq_true, true_implies, false_implies, implies_true, and_true, true_and, Nat.le_refl, true_or, or_true, eq_self, List.length_cons, List.length_nil, Nat.reduceAdd, Nat.reduceLT, Nat.reduceLeDiff]
    exact hp
  · rw [e] at hp ⊢
    rw [if_neg (by decide), if_neg (by decide)] at hp
    rw [show laneC 2 = 2 from rfl]
    refine MW.lsw (tgt := 38) (off := 34) D (by decide) rfl (by decide) (MW.run gd_X2_narrowed [] 10 ?_)
    simp (disch := omega) only [↓EVi, ↓EVc, ↓ft_X2_narrowed, ↓reduceIte, ↓EV_obs, ↓EV_obn, ↓EV_ais, ↓EV_ain, mdF, mRun, List.mem_cons, List.not_mem_nil, or_false, mtab_eq, Nat.reduceEqDiff, Nat.zero_add, mset2, b10, b00, not_true_eq_false, not_false_eq_true, true_implies, false_implies, implies_true, and_true, true_and, Nat.le_refl, true_or, or_true, eq_self, List.length_cons, List.length_nil, Nat.reduceAdd, Nat.reduceLT, Nat.reduceLeDiff]
    exact hp
theorem lane_nothing {l : Int32} (hl : l = -4 ∨ l = 0 ∨ l = 1 ∨ l = 2) : (laneC l = -1) ↔ l = -4 := by
  rcases hl with e | e | e | e <;> rw [e] <;> decide
set_option maxRecDepth 10000 in
theorem s_write {i v : Int32} (hd : 1 ≤ d) (hS : SheetR h G s sh) (hl : sh.1 = -4 ∨ sh.1 = 0 ∨ sh.1 = 1 ∨ sh.1 = 2) (hsz : sh.2.1 ≤ 62)
    (hp1 : sh.1 = -4 → post (some (.int 1)) h)
    (hp2 : ¬ sh.1 = -4 → ¬ (0 ≤ i ∧ i < nI sh.2.1) → post (some (.int 2)) h)
    (hp0 : ¬ sh.1 = -4 → (0 ≤ i ∧ i < nI sh.2.1) → ∀ h', SheetR h' G s (sh.1, sh.2.1, upd sh.2.2 i.toNatClampNeg (nar sh.1 v)) → mKeep h h' s (s + 1) → post (some (.int 0)) h') : MC G MX2_write d 0 0 [.ref s, .int i, .int v] h N post := by
  obtain ⟨C, s0, s1, s2⟩ := id hS
  have ln := lane_nothing hl
  refine MC.of (L0 := [some (.ref s), some (.int i), some (.int v)]) gd_X2_write (Nat.le_of_ble_eq_true rfl) rfl (MW.run gd_X2_write [] 30 ?_)
  by_cases c1 : sh.1 = -4
  · have f1 : (laneC sh.1 = -1) = True := eq_true (ln.mpr c1)
    simp (disch := omega) only [↓EVk, ↓w_if_eq, ↓w_an_ite, ↓mEndK, ↓w_retK0, ↓w_fitK, ↓w_dupK, ↓w_dup2K, w_an_back, ↓EVd, ↓ft_X2_write, ↓reduceIte, ↓EV_obs, ↓EV_obn, ↓EV_ais, ↓EV_ain, ↓EV_ob s0, mdF, mRun, List.mem_cons, List.not_mem_nil, or_false, mtab_eq, Nat.reduceEqDiff, Nat.zero_add, f1, mset2, b10, b00, not_true_eq_false, not_false_eq_true, true_implies, false_implies, implies_true, and_true, true_and, Nat.le_refl, true_or, or_true, eq_self, List.length_cons, List.length_nil, Nat.reduceAdd, Nat.reduceLT, Nat.reduceLeDiff]
    exact hp1 c1
  have f1 : (laneC sh.1 = -1) = False := eq_false (fun z => c1 (ln.mp z))
  simp (disch := omega) only [↓EVi, ↓EVc, ↓ft_X2_write, ↓reduceIte, ↓EV_obs, ↓EV_obn, ↓EV_ais, ↓EV_ain, ↓EV_ob s0, mdF, mRun, List.mem_cons, List.not_mem_nil, or_false, mtab_eq, Nat.reduceEqDiff, Nat.zero_add, f1, hd, mset2, b10, b00, not_true_eq_false, not_false_eq_true, true_implies, false_implies, implies_true, and_true, true_and, Nat.le_refl, true_or, or_true, eq_self, List.length_cons, List.length_nil, Nat.reduceAdd, Nat.reduceLT, Nat.reduceLeDiff]
  by_cases c2 : i < 0
  · simp only [c2, not_true_eq_false, true_implies, false_implies, and_true]
    exact hp2 c1 (fun z => absurd c2 (by rw [Int32.not_lt]; exact z.1))
  simp only [c2, not_false_eq_true, true_implies, false_implies, true_and]
  refine ⟨fun c3 => ?_, fun c3 => hp2 c1 (fun z => c3 z.2)⟩
  have c4 : 0 ≤ i ∧ i < nI sh.2.1 := ⟨by rw [← Int32.not_lt]; exact c2, c3⟩
  obtain ⟨j, hj, rfl⟩ := (arg_ix i (n := sh.2.1) (by omega)).resolve_left (fun z => z c4)
  refine s_narrowed hS (by rcases hl with e | e | e | e; exact absurd e c1; exact Or.inl e; exact Or.inr (Or.inl e); exact Or.inr (Or.inr e)) ?_
  have cj : (nI j).toNatClampNeg = j := nI_clamp (by omega)
  have vj : vp_in (nI j) 62 := vp_in_nI (by omega) (by decide)
  simp (disch := omega) only [↓EVi, ↓EVc, ↓ft_X2_write, ↓reduceIte, ↓EV_obs, ↓EV_obn, ↓EV_ais, ↓EV_ain, ↓EV_ob s0, ↓EV_ai s1, mdF, mRun, List.mem_cons, List.not_mem_nil, or_false, mtab_eq, Nat.reduceEqDiff, Nat.zero_add, cj, vj, mset2, b10, b00, not_true_eq_false, not_false_eq_true, true_implies, false_implies, implies_true, and_true, true_and, Nat.le_refl, true_or, or_true, eq_self, List.length_cons, List.length_nil, Nat.reduceAdd, Nat.reduceLT, Nat.reduceLeDiff]
  refine hp0 c1 c4 _ ⟨upd C j (nar sh.1 v), by rw [mset_ne (by omega)]; exact s0, mset_same, fun m hm => ?_⟩ (fun z hz => mset_ne (by omega))
  show upd C j _ m = upd sh.2.2 (nI j).toNatClampNeg _ m
  rw [cj]
  by_cases e : m = j
  · subst e
    rw [pk_us, pk_us]
  · rw [pk_un e, pk_un e]
    exact s2 m hm
set_option maxRecDepth 10000 in
theorem x_isSheet {k : Int32} (hp : post (some (.int (if 0 ≤ k ∧ k ≤ 3 then 1 else 0))) h) : MC G MX6_isSheet d 0 0 [.int k] h N post := by
  refine MC.of (L0 := [some (.int k)]) gd_X6_isSheet (Nat.le_of_ble_eq_true rfl) rfl (MW.run gd_X6_isSheet [] 20 ?_)
  simp (disch := omega) only [↓EVi, ↓EVc, ↓ft_X6_isSheet, ↓reduceIte, ↓EV_obs, ↓EV_obn, ↓EV_ais, ↓EV_ain, mdF, mRun, List.mem_cons, List.not_mem_nil, or_false, mtab_eq, Nat.reduceEqDiff, Nat.zero_add, mset2, b10, b00, not_true_eq_false, not_false_eq_true, true_implies, false_implies, implies_true, and_true, true_and, Nat.le_refl, true_or, or_true, eq_self, List.length_cons, List.length_nil, Nat.reduceAdd, Nat.reduceLT, Nat.reduceLeDiff]
  obtain ⟨z, z1, z2, rfl⟩ := z_of k
  have e1 : (zI z < 0) ↔ z < 0 := by simp (disch := omega) only [z_nI, z_lit, z_neg, z_add, z_sub, z_mul, z_lt, z_le, z_eq, z_in, z_cl]
  have e2 : (4 ≤ zI z) ↔ 4 ≤ z := by simp (disch := omega) only [z_nI, z_lit, z_neg, z_add, z_sub, z_mul, z_lt, z_le, z_eq, z_in, z_cl]
  have e3 : (0 ≤ zI z ∧ zI z ≤ 3) ↔ (0 ≤ z ∧ z ≤ 3) := by simp (disch := omega) only [z_nI, z_lit, z_neg, z_add, z_sub, z_mul, z_lt, z_le, z_eq, z_in, z_cl]
  refine ⟨fun c => ?_, fun c => ⟨fun c2 => ?_, fun c2 => ?_⟩⟩
  · rw [if_neg (fun y => by have := e1.mp c; have := e3.mp y; omega)] at hp
    exact hp
  · rw [if_neg (fun y => by have := e2.mp c2; have := e3.mp y; omega)] at hp
    exact hp
  · rw [if_pos (e3.mpr (by have h1 : ¬ z < 0 := fun y => c (e1.mpr y); have h2 : ¬ 4 ≤ z := fun y => c2 (e2.mpr y); omega))] at hp
    exact hp
set_option maxRecDepth 10000 in
theorem x_isLane {k : Int32} (hp : post (some (.int (if 0 ≤ k ∧ k ≤ 2 then 1 else 0))) h) : MC G MX6_isLane d 0 0 [.int k] h N post := by
  refine MC.of (L0 := [some (.int k)]) gd_X6_isLane (Nat.le_of_ble_eq_true rfl) rfl (MW.run gd_X6_isLane [] 20 ?_)
  simp (disch := omega) only [↓EVi, ↓EVc, ↓ft_X6_isLane, ↓reduceIte, ↓EV_obs, ↓EV_obn, ↓EV_ais, ↓EV_ain, mdF, mRun, List.mem_cons, List.not_mem_nil, or_false, mtab_eq, Nat.reduceEqDiff, Nat.zero_add, mset2, b10, b00, not_true_eq_false, not_false_eq_true, true_implies, false_implies, implies_true, and_true, true_and, Nat.le_refl, true_or, or_true, eq_self, List.length_cons, List.length_nil, Nat.reduceAdd, Nat.reduceLT, Nat.reduceLeDiff]
  refine ⟨fun c => ?_, fun c => ⟨fun c2 => ?_, fun c2 => ?_⟩⟩
  · rw [if_neg (fun y => absurd c (by rw [Int32.not_lt]; exact y.1))] at hp
    exact hp
  · rw [if_neg (fun y => absurd y.2 (by rw [Int32.not_le]; exact c2))] at hp
    exact hp
  · rw [if_pos ⟨by rw [← Int32.not_lt]; exact c, by rw [← Int32.not_lt]; exact c2⟩] at hp
    exact hp
set_option maxRecDepth 10000 in
theorem x_isSort {k : Int32} (hp : post (some (.int (if 0 ≤ k ∧ k ≤ 2 then 1 else 0))) h) : MC G MX6_isSort d 0 0 [.int k] h N post := by
  refine MC.of (L0 := [some (.int k)]) gd_X6_isSort (Nat.le_of_ble_eq_true rfl) rfl (MW.run gd_X6_isSort [] 20 ?_)
  simp (disch := omega) only [↓EVi, ↓EVc, ↓ft_X6_isSort, ↓reduceIte, ↓EV_obs, ↓EV_obn, ↓EV_ais, ↓EV_ain, mdF, mRun, List.mem_cons, List.not_mem_nil, or_false, mtab_eq, Nat.reduceEqDiff, Nat.zero_add, mset2, b10, b00, not_true_eq_false, not_false_eq_true, true_implies, false_implies, implies_true, and_true, true_and, Nat.le_refl, true_or, or_true, eq_self, List.length_cons, List.length_nil, Nat.reduceAdd, Nat.reduceLT, Nat.reduceLeDiff]
  refine ⟨fun c => ?_, fun c => ⟨fun c2 => ?_, fun c2 => ?_⟩⟩
  · rw [if_neg (fun y => absurd c (by rw [Int32.not_lt]; exact y.1))] at hp
    exact hp
  · rw [if_neg (fun y => absurd y.2 (by rw [Int32.not_le]; exact c2))] at hp
    exact hp
  · rw [if_pos ⟨by rw [← Int32.not_lt]; exact c, by rw [← Int32.not_lt]; exact c2⟩] at hp
    exact hp
set_option maxRecDepth 10000 in
theorem X_sheet {k l n : Int32} (hd : 1 ≤ d) (hI : SInv S) (hX : XR h G B S) (hp : ∀ h', XR h' G B (aSheet k l n S).2 → mKeep h h' B (B + 136) → post (some (.int (aSheet k l n S).1)) h') : MC G MX6_sheet d 0 0 [.ref B, .int k, .int l, .int n] h N post := by
  have h0 := hX.1
  have hsa := hX.2.2.1
  unfold aSheet at hp
  refine MC.of (L0 := [some (.ref B), some (.int k), some (.int l), some (.int n)]) gd_X6_sheet (Nat.le_of_ble_eq_true rfl) rfl (MW.run gd_X6_sheet [] 40 ?_)
  simp (disch := omega) only [↓EVi, ↓EVc, ↓ft_X6_sheet, ↓reduceIte, ↓EV_obs, ↓EV_obn, ↓EV_ais, ↓EV_ain, ↓EV_ob h0, mdF, mRun, List.mem_cons, List.not_mem_nil, or_false, mtab_eq, Nat.reduceEqDiff, Nat.zero_add, xO, hd, mset2, b10, b00, not_true_eq_false, not_false_eq_true, true_implies, false_implies, implies_true, and_true, true_and, Nat.le_refl, true_or, or_true, eq_self, List.length_cons, List.length_nil, Nat.reduceAdd, Nat.reduceLT, Nat.reduceLeDiff]
  refine x_isSheet ?_
  by_cases c1 : 0 ≤ k ∧ k ≤ 3
  case neg =>
    rw [if_neg (fun z => c1 z.1)] at hp
    rw [if_neg c1]
    simp (disch := omega) only [↓EVi, ↓EVc, ↓ft_X6_sheet, ↓reduceIte, ↓EV_obs, ↓EV_obn, ↓EV_ais, ↓EV_ain, ↓EV_ob h0, mdF, mRun, List.mem_cons, List.not_mem_nil, or_false, mtab_eq, Nat.reduceEqDiff, Nat.zero_add, xO, hd, mset2, b10, b00, not_true_eq_false, not_false_eq_true, true_implies, false_implies, implies_true, and_true, true_and, Nat.le_refl, true_or, or_true, eq_self, List.length_cons, List.length_nil, Nat.reduceAdd, Nat.reduceLT, Nat.reduceLeDiff]
    exact hp h hX mKeep_rfl
  rw [if_pos c1]
  simp (disch := omega) only [↓EVi, ↓EVc, ↓ft_X6_sheet, ↓reduceIte, ↓EV_obs, ↓EV_obn, ↓EV_ais, ↓EV_ain, ↓EV_ob h0, mdF, mRun, List.mem_cons, List.not_mem_nil, or_false, mtab_eq, Nat.reduceEqDiff, Nat.zero_add, xO, hd, mset2, b10, b00, not_true_eq_false, not_false_eq_true, true_implies, false_implies, implies_true, and_true, true_and, Nat.le_refl, true_or, or_true, eq_self, List.length_cons, List.length_nil, Nat.reduceAdd, Nat.reduceLT, Nat.reduceLeDiff]
  refine x_isLane ?_
  by_cases c2 : 0 ≤ l ∧ l ≤ 2
  case neg =>
    rw [if_neg (fun z => c2 z.2.1)] at hp
    rw [if_neg c2]
    simp (disch := omega) only [↓EVi, ↓EVc, ↓ft_X6_sheet, ↓reduceIte, ↓EV_obs, ↓EV_obn, ↓EV_ais, ↓EV_ain, ↓EV_ob h0, mdF, mRun, List.mem_cons, List.not_mem_nil, or_false, mtab_eq, Nat.reduceEqDiff, Nat.zero_add, xO, hd, mset2, b10, b00, not_true_eq_false, not_false_eq_true, true_implies, false_implies, implies_true, and_true, true_and, Nat.le_refl, true_or, or_true, eq_self, List.length_cons, List.length_nil, Nat.reduceAdd, Nat.reduceLT, Nat.reduceLeDiff]
    exact hp h hX mKeep_rfl
  rw [if_pos c2]
  obtain ⟨q, hq, rfl⟩ := arg_le k 3 (by decide) c1
  have hcq : (nI q).toNatClampNeg = q := nI_clamp (by omega)
  have vq : vp_in (nI q) 4 := vp_in_nI (by omega) (by decide)
  have hS := hX.2.2.2.2.2.2.2.2.1 q (by omega)
  obtain ⟨C, s0, s1, s2⟩ := id hS
  have s0' : h (xS B (nI q).toNatClampNeg) = some (.inr (2, [.ref (xS B q + 1), .int (laneC (S.2.2.2 q).1), .int (nI (S.2.2.2 q).2.1)])) := by rw [hcq]; exact s0
  simp (disch := omega) only [↓EVi, ↓EVc, ↓ft_X6_sheet, ↓reduceIte, ↓EV_obs, ↓EV_obn, ↓EV_ais, ↓EV_ain, ↓EV_ob h0, ↓EV_ob s0', ↓EV_ar hsa, ↓EV_arn, mdF, mRun, List.mem_cons, List.not_mem_nil, or_false, mtab_eq, Nat.reduceEqDiff, Nat.zero_add, xO, hd, vq, mset2, b10, b00, not_true_eq_false, not_false_eq_true, true_implies, false_implies, implies_true, and_true, true_and, Nat.le_refl, true_or, or_true, eq_self, List.length_cons, List.length_nil, Nat.reduceAdd, Nat.reduceLT, Nat.reduceLeDiff]
  refine ⟨fun c3 => ⟨fun c4 => ?_, fun c4 => ?_⟩, fun c3 => ?_⟩
  · have c4' : ¬ n < 0 := by rw [Int32.not_lt]; exact c4
    rw [if_pos ⟨c1, c2, c3⟩, if_neg c4', hcq] at hp
    obtain ⟨r, hr, rfl⟩ := nI_of c4'
    rw [hcq]
    refine s_renew hS ⟨r, rfl⟩ (fun z => by rw [z] at c2; exact absurd c2.1 (by decide)) (fun h1 hS1 hk1 => ?_) (by rw [nI_clamp hr])
    simp (disch := omega) only [↓EVi, ↓EVc, ↓ft_X6_sheet, ↓reduceIte, ↓EV_obs, ↓EV_obn, ↓EV_ais, ↓EV_ain, mdF, mRun, List.mem_cons, List.not_mem_nil, or_false, mtab_eq, Nat.reduceEqDiff, Nat.zero_add, hd, mset2, b10, b00, not_true_eq_false, not_false_eq_true, true_implies, false_implies, implies_true, and_true, true_and, Nat.le_refl, true_or, or_true, eq_self, List.length_cons, List.length_nil, Nat.reduceAdd, Nat.reduceLT, Nat.reduceLeDiff]
    exact hp h1 (XR_sheet hX (by omega) hk1 hS1) (mKeep_in hk1 (by unfold xS; omega) (by unfold xS; omega))
  · rw [if_pos ⟨c1, c2, c3⟩, if_pos (by rw [← Int32.not_le]; exact c4)] at hp
    exact hp h hX mKeep_rfl
  · rw [if_neg (fun z => c3 z.2.2)] at hp
    exact hp h hX mKeep_rfl
set_option maxRecDepth 10000 in
theorem X_lay {k i v : Int32} (hd : 2 ≤ d) (hI : SInv S) (hX : XR h G B S) (hp : ∀ h', XR h' G B (aLay k i v S).2 → mKeep h h' B (B + 136) → post (some (.int (aLay k i v S).1)) h') : MC G MX6_lay d 0 0 [.ref B, .int k, .int i, .int v] h N post := by
  have h0 := hX.1
  have hsa := hX.2.2.1
  have hd1 : 1 ≤ d := by omega
  unfold aLay at hp
  refine MC.of (L0 := [some (.ref B), some (.int k), some (.int i), some (.int v), none]) gd_X6_lay (Nat.le_of_ble_eq_true rfl) rfl (MW.run gd_X6_lay [] 40 ?_)
  simp (disch := omega) only [↓EVi, ↓EVc, ↓ft_X6_lay, ↓reduceIte, ↓EV_obs, ↓EV_obn, ↓EV_ais, ↓EV_ain, ↓EV_ob h0, mdF, mRun, List.mem_cons, List.not_mem_nil, or_false, mtab_eq, Nat.reduceEqDiff, Nat.zero_add, xO, hd1, mset2, b10, b00, not_true_eq_false, not_false_eq_true, true_implies, false_implies, implies_true, and_true, true_and, Nat.le_refl, true_or, or_true, eq_self, List.length_cons, List.length_nil, Nat.reduceAdd, Nat.reduceLT, Nat.reduceLeDiff]
  refine x_isSheet ?_
  by_cases c1 : 0 ≤ k ∧ k ≤ 3
  case neg =>
    rw [if_neg c1] at hp
    rw [if_neg c1]
    simp (disch := omega) only [↓EVi, ↓EVc, ↓ft_X6_lay, ↓reduceIte, ↓EV_obs, ↓EV_obn, ↓EV_ais, ↓EV_ain, ↓EV_ob h0, mdF, mRun, List.mem_cons, List.not_mem_nil, or_false, mtab_eq, Nat.reduceEqDiff, Nat.zero_add, xO, hd1, mset2, b10, b00, not_true_eq_false, not_false_eq_true, true_implies, false_implies, implies_true, and_true, true_and, Nat.le_refl, true_or, or_true, eq_self, List.length_cons, List.length_nil, Nat.reduceAdd, Nat.reduceLT, Nat.reduceLeDiff]
    exact hp h hX mKeep_rfl
  rw [if_pos c1]
  rw [if_pos c1] at hp
  obtain ⟨q, hq, rfl⟩ := arg_le k 3 (by decide) c1
  have hcq : (nI q).toNatClampNeg = q := nI_clamp (by omega)
  have vq : vp_in (nI q) 4 := vp_in_nI (by omega) (by decide)
  have hS := hX.2.2.2.2.2.2.2.2.1 q (by omega)
  obtain ⟨hl, hsz⟩ := hI.2.2.2.2.2 q (by omega)
  obtain ⟨C, s0, s1, s2⟩ := id hS
  have s0' : h (xS B (nI q).toNatClampNeg) = some (.inr (2, [.ref (xS B q + 1), .int (laneC (S.2.2.2 q).1), .int (nI (S.2.2.2 q).2.1)])) := by rw [hcq]; exact s0
  rw [hcq] at hp
  simp (disch := omega) only [↓EVi, ↓EVc, ↓ft_X6_lay, ↓reduceIte, ↓EV_obs, ↓EV_obn, ↓EV_ais, ↓EV_ain, ↓EV_ob h0, ↓EV_ob s0', ↓EV_ar hsa, ↓EV_arn, mdF, mRun, List.mem_cons, List.not_mem_nil, or_false, mtab_eq, Nat.reduceEqDiff, Nat.zero_add, xO, hd1, vq, mset2, b10, b00, not_true_eq_false, not_false_eq_true, true_implies, false_implies, implies_true, and_true, true_and, Nat.le_refl, true_or, or_true, eq_self, List.length_cons, List.length_nil, Nat.reduceAdd, Nat.reduceLT, Nat.reduceLeDiff]
  rw [hcq]
  refine s_write (by omega) hS hl hsz (fun z => ?_) (fun z1 z2 => ?_) (fun z1 z2 h1 hS1 hk1 => ?_)
  · rw [if_pos z] at hp
    simp (disch := omega) only [↓EVi, ↓EVc, ↓ft_X6_lay, ↓reduceIte, ↓EV_obs, ↓EV_obn, ↓EV_ais, ↓EV_ain, mdF, mRun, List.mem_cons, List.not_mem_nil, or_false, mtab_eq, Nat.reduceEqDiff, Nat.zero_add, mset2, b10, b00, not_true_eq_false, not_false_eq_true, true_implies, false_implies, implies_true, and_true, true_and, Nat.le_refl, true_or, or_true, eq_self, List.length_cons, List.length_nil, Nat.reduceAdd, Nat.reduceLT, Nat.reduceLeDiff]
    exact hp h hX mKeep_rfl
  · rw [if_neg z1, if_neg z2] at hp
    simp (disch := omega) only [↓EVi, ↓EVc, ↓ft_X6_lay, ↓reduceIte, ↓EV_obs, ↓EV_obn, ↓EV_ais, ↓EV_ain, mdF, mRun, List.mem_cons, List.not_mem_nil, or_false, mtab_eq, Nat.reduceEqDiff, Nat.zero_add, b20, mset2, b10, b00, not_true_eq_false, not_false_eq_true, true_implies, false_implies, implies_true, and_true, true_and, Nat.le_refl, true_or, or_true, eq_self, List.length_cons, List.length_nil, Nat.reduceAdd, Nat.reduceLT, Nat.reduceLeDiff]
    exact hp h hX mKeep_rfl
  · rw [if_neg z1, if_pos z2] at hp
    simp (disch := omega) only [↓EVi, ↓EVc, ↓ft_X6_lay, ↓reduceIte, ↓EV_obs, ↓EV_obn, ↓EV_ais, ↓EV_ain, mdF, mRun, List.mem_cons, List.not_mem_nil, or_false, mtab_eq, Nat.reduceEqDiff, Nat.zero_add, mset2, b10, b00, not_true_eq_false, not_false_eq_true, true_implies, false_implies, implies_true, and_true, true_and, Nat.le_refl, true_or, or_true, eq_self, List.length_cons, List.length_nil, Nat.reduceAdd, Nat.reduceLT, Nat.reduceLeDiff]
    exact hp h1 (XR_sheet hX (by omega) hk1 hS1) (mKeep_in hk1 (by unfold xS; omega) (by unfold xS; omega))
end XS
