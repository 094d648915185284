/-! Tape: bytes, tokens -/
def TQ (h : mH) (G : mG) (T : Nat) (tp : List Nat) (p k t x : Int32) : Prop := (∃ Bt, TapeC h G T Bt (nI tp.length) p k t x ∧ ∀ i, i < tp.length → Bt i = sgn8 (tp.getD i 0)) ∧ tp.length ≤ 120 ∧ ∀ i, i < tp.length → tp.getD i 0 < 256
theorem TQ_R {h : mH} {G : mG} {T : Nat} {tp : List Nat} {p k t x : Int32} (q : TQ h G T tp p k t x) : TapeR h G T tp := by
  obtain ⟨⟨Bt, hC, hb⟩, -⟩ := q
  exact ⟨Bt, p, k, t, x, hC, hb⟩
theorem sgn8_eq (x : Int32) : x.toInt8.toInt32 = sgn8 (x &&& 255).toNatClampNeg := by
  have e := pk_and x (m := 255) 8 (by decide)
  have hlt : x.toBitVec.toNat % 256 < 256 := Nat.mod_lt _ (by decide)
  rw [show x &&& 255 = nI (x.toBitVec.toNat % 256) from e, nI_clamp (by omega), ← Int32.toInt_inj, Int8.toInt_toInt32, Int32.toInt_toInt8, toI x]
  have hn : x.toBitVec.toNat < 4294967296 := x.toBitVec.isLt
  generalize x.toBitVec.toNat = n at *
  unfold sgn8
  by_cases c : n % 256 < 128
  · rw [if_pos c, nI_toInt (by omega)]
    simp only [Int.bmod_def]
    split <;> split <;> omega
  · rw [if_neg c, z_toInt (by omega)]
    simp only [Int.bmod_def]
    split <;> split <;> omega
theorem sgn8_z {b : Nat} (hb : b < 256) : ∃ z : Int, sgn8 b = zI z ∧ -128 ≤ z ∧ z < 128 ∧ (0 ≤ z → z = b) ∧ (b < 128 → z = b) := by
  unfold sgn8
  by_cases c : b < 128
  · rw [if_pos c, z_nI]
    exact ⟨_, rfl, by omega, by omega, fun _ => rfl, fun _ => rfl⟩
  · rw [if_neg c]
    exact ⟨_, rfl, by omega, by omega, fun z => by omega, fun z => absurd z c⟩
theorem sgn8_small {b k : Nat} (hb : b < 256) (hk : k < 128) : (sgn8 b = nI k) ↔ b = k := by
  obtain ⟨z, e, z1, z2, z3, z4⟩ := sgn8_z hb
  rw [e]
  simp (disch := omega) only [z_nI, z_lit, z_neg, z_add, z_sub, z_mul, z_lt, z_le, z_eq, z_in, z_cl]
  omega
theorem sgn8_dig {b : Nat} (hb : b < 256) : ((sgn8 b < 48) ↔ ¬ 48 ≤ b ∨ 128 ≤ b) ∧ ((57 < sgn8 b) ↔ 57 < b ∧ b < 128) := by
  obtain ⟨z, e, z1, z2, z3, z4⟩ := sgn8_z hb
  rw [e]
  simp (disch := omega) only [z_nI, z_lit, z_neg, z_add, z_sub, z_mul, z_lt, z_le, z_eq, z_in, z_cl]
  omega
/-- the class's word for a sort of token -/
def ckS (s : Nat) : Nat := if s = 0 then 3 else if s = 3 then 0 else s
section TPS
variable {G : mG} {d N T F : Nat} {tp : List Nat} {h : mH} {post : Option Value → mH → Prop}
set_option maxRecDepth 10000 in
theorem t_take {v : Int64} (hT : TapeR h G T tp) (hl : tp.length ≤ 112) (hp : ∀ h', TapeR h' G T (tp ++ fBs v 8) → mKeep h h' T (T + 1) → post none h') : MC G MX4_take d 0 0 [.ref T, .long v] h N post := by
  refine MC.of (L0 := [some (.ref T), some (.long v), none, none]) gd_X4_take (Nat.le_of_ble_eq_true rfl) rfl (MW.run gd_X4_take [2] 10 ?_)
  simp (disch := omega) only [↓EVi, ↓EVc, ↓ft_X4_take, ↓reduceIte, ↓EV_obs, ↓EV_obn, ↓EV_ais, ↓EV_ain, mdF, mRun, List.mem_cons, List.not_mem_nil, or_false, mtab_eq, Nat.reduceEqDiff, Nat.zero_add, mset2, b10, b00, not_true_eq_false, not_false_eq_true, true_implies, false_implies, implies_true, and_true, true_and, Nat.le_refl, true_or, or_true, eq_self, List.length_cons, List.length_nil, Nat.reduceAdd, Nat.reduceLT, Nat.reduceLeDiff]
  refine MW.upto 8 (fun i L h' => L = [some (.ref T), some (.long v), none, some (.int (nI i))] ∧ TapeR h' G T (tp ++ fBs v i) ∧ mKeep h h' T (T + 1)) ?_ ?_ 0 _ _ (Nat.zero_le _) ⟨rfl, by unfold fBs; simpa using hT, mKeep_rfl⟩
  · rintro i L h' hi ⟨rfl, hT', hk⟩ ih
    obtain ⟨Bt, p, k, t, x, ⟨t0, t1⟩, t2⟩ := hT'
    have hlen : (tp ++ fBs v i).length = tp.length + i := by unfold fBs; simp
    rw [hlen] at t0
    have f1 : ((8 : Int32) ≤ nI i) = False := eq_false (by simp (disch := omega) only [z_nI, z_lit, z_neg, z_add, z_sub, z_mul, z_lt, z_le, z_eq, z_in, z_cl]; omega)
    have f2 : ((120 : Int32) ≤ nI (tp.length + i)) = False := eq_false (by simp (disch := omega) only [z_nI, z_lit, z_neg, z_add, z_sub, z_mul, z_lt, z_le, z_eq, z_in, z_cl]; omega)
    have cl : (nI (tp.length + i)).toNatClampNeg = tp.length + i := nI_clamp (by omega)
    have vl : vp_in (nI (tp.length + i)) 120 := vp_in_nI (by omega) (by decide)
    refine MW.run1 gd_X4_take [2] 34 ?_
    simp (disch := omega) only [↓EVk, ↓w_if_eq, ↓w_an_ite, ↓mEndK, ↓w_retK0, ↓w_fitK, ↓w_dupK, ↓w_dup2K, w_an_back, ↓EVd, ↓ft_X4_take, ↓reduceIte, ↓EV_obs, ↓EV_obn, ↓EV_ais, ↓EV_ain, ↓EV_ob t0, ↓EV_ai t1, mdF, mRun, List.mem_cons, List.not_mem_nil, or_false, mtab_eq, Nat.reduceEqDiff, Nat.zero_add, f1, f2, cl, vl, mset2, b10, b00, not_true_eq_false, not_false_eq_true, true_implies, false_implies, implies_true, and_true, true_and, Nat.le_refl, true_or, or_true, eq_self, List.length_cons, List.length_nil, Nat.reduceAdd, Nat.reduceLT, Nat.reduceLeDiff]
    have e56 : (56 : Int32) - 8 * nI i = zI (56 - 8 * (i : Int)) := by simp (disch := omega) only [z_nI, z_lit, z_neg, z_add, z_sub, z_mul, z_lt, z_le, z_eq, z_in, z_cl]
    rw [e56, pk_vb, sgn8_eq]
    have key : ∀ h2, h2 = mset (mset h' (T + 1) (.inl (gC G 1, 120, .inl (upd Bt (tp.length + i) (sgn8 (fB v i)))))) T (.inr (4, [.ref (T + 1), .int (nI (tp.length + i) + 1), .int p, .int k, .int t, .int x])) → MW G MX4_take (mz G d 0 0 post) 2 [some (.ref T), some (.long v), none, some (.int (nI i + 1))] [] h2 (N, 0, 0) := by
      intro h2 e
      rw [nI_1]
      refine ih _ _ ⟨rfl, ⟨upd Bt (tp.length + i) (sgn8 (fB v i)), p, k, t, x, ⟨?_, ?_⟩, fun j hj => ?_⟩, fun z hz => ?_⟩
      · rw [e, mset_same, nI_1, fBs_succ, ← List.append_assoc, List.length_append, hlen]
        rfl
      · rw [e, mset_ne (by omega), mset_same]
      · rw [fBs_succ, ← List.append_assoc] at hj ⊢
        rw [List.length_append, hlen, List.length_singleton] at hj
        by_cases c : j = tp.length + i
        · rw [c, pk_us, ← hlen, getD_app_e]
        · rw [pk_un c, getD_app_l (by omega)]
          exact t2 j (by omega)
      · rw [e, mset_ne (by omega), mset_ne (by omega)]
        exact hk z hz
    exact key _ rfl
  · rintro L h' ⟨rfl, hT', hk⟩
    have f1 : ((8 : Int32) ≤ nI 8) = True := eq_true (by decide)
    refine MW.run1 gd_X4_take [2] 8 ?_
    simp (disch := omega) only [↓EVk, ↓w_if_eq, ↓w_an_ite, ↓mEndK, ↓w_retK0, ↓w_fitK, ↓w_dupK, ↓w_dup2K, w_an_back, ↓EVd, ↓ft_X4_take, ↓reduceIte, ↓EV_obs, ↓EV_obn, ↓EV_ais, ↓EV_ain, mdF, mRun, List.mem_cons, List.not_mem_nil, or_false, mtab_eq, Nat.reduceEqDiff, Nat.zero_add, f1, mset2, b10, b00, not_true_eq_false, not_false_eq_true, true_implies, false_implies, implies_true, and_true, true_and, Nat.le_refl, true_or, or_true, eq_self, List.length_cons, List.length_nil, Nat.reduceAdd, Nat.reduceLT, Nat.reduceLeDiff]
    exact hp h' hT' hk
set_option maxRecDepth 10000 in
theorem t_isFigure {i : Nat} {p k t x : Int32} (hT : TQ h G T tp p k t x) (hi : i < tp.length) (hp : post (some (.int (if dig tp i then 1 else 0))) h) : MC G MX4_isFigure d 0 0 [.ref T, .int (nI i)] h N post := by
  obtain ⟨⟨Bt, ⟨t0, t1⟩, t2⟩, t3, t4⟩ := hT
  have ci : (nI i).toNatClampNeg = i := nI_clamp (by omega)
  have vi : vp_in (nI i) 120 := vp_in_nI (by omega) (by decide)
  have eb := t2 i hi
  obtain ⟨w1, w2⟩ := sgn8_dig (t4 i hi)
  refine MC.of (L0 := [some (.ref T), some (.int (nI i))]) gd_X4_isFigure (Nat.le_of_ble_eq_true rfl) rfl (MW.run gd_X4_isFigure [] 20 ?_)
  simp (disch := omega) only [↓EVi, ↓EVc, ↓ft_X4_isFigure, ↓reduceIte, ↓EV_obs, ↓EV_obn, ↓EV_ais, ↓EV_ain, ↓EV_ob t0, ↓EV_ai t1, mdF, mRun, List.mem_cons, List.not_mem_nil, or_false, mtab_eq, Nat.reduceEqDiff, Nat.zero_add, ci, vi, eb, mset2, b10, b00, not_true_eq_false, not_false_eq_true, true_implies, false_implies, implies_true, and_true, true_and, Nat.le_refl, true_or, or_true, eq_self, List.length_cons, List.length_nil, Nat.reduceAdd, Nat.reduceLT, Nat.reduceLeDiff]
  rw [w1, w2]
  refine ⟨fun z => ?_, fun z => ⟨fun z2 => ?_, fun z2 => ?_⟩⟩
  · rw [if_neg (fun y => by have := y.2; omega)] at hp
    exact hp
  · rw [if_neg (fun y => by have := y.2; omega)] at hp
    exact hp
  · rw [if_pos ⟨hi, by omega, by omega⟩] at hp
    exact hp
set_option maxRecDepth 10000 in
theorem t_misplaced {p t x : Int32} {s : Nat} (hs : s ≤ 3) (hT : TQ h G T tp p (nI (ckS s)) t x) (hp : post (some (.int (if s = 3 then 1 else 2))) h) : MC G MX4_misplaced d 0 0 [.ref T] h N post := by
  obtain ⟨⟨Bt, ⟨t0, t1⟩, t2⟩, t3, t4⟩ := hT
  refine MC.of (L0 := [some (.ref T)]) gd_X4_misplaced (Nat.le_of_ble_eq_true rfl) rfl (MW.run gd_X4_misplaced [] 20 ?_)
  simp (disch := omega) only [↓EVi, ↓EVc, ↓ft_X4_misplaced, ↓reduceIte, ↓EV_obs, ↓EV_obn, ↓EV_ais, ↓EV_ain, ↓EV_ob t0, mdF, mRun, List.mem_cons, List.not_mem_nil, or_false, mtab_eq, Nat.reduceEqDiff, Nat.zero_add, mset2, b10, b00, not_true_eq_false, not_false_eq_true, true_implies, false_implies, implies_true, and_true, true_and, Nat.le_refl, true_or, or_true, eq_self, List.length_cons, List.length_nil, Nat.reduceAdd, Nat.reduceLT, Nat.reduceLeDiff]
  rcases (by omega : s = 0 ∨ s = 1 ∨ s = 2 ∨ s = 3) with rfl | rfl | rfl | rfl
  · have f1 : (nI (ckS 0) = 0) = False := eq_false (by decide)
    simp only [f1, not_false_eq_true, true_implies, not_true_eq_false, false_implies, and_true]
    exact hp
  · have f1 : (nI (ckS 1) = 0) = False := eq_false (by decide)
    simp only [f1, not_false_eq_true, true_implies, not_true_eq_false, false_implies, and_true]
    exact hp
  · have f1 : (nI (ckS 2) = 0) = False := eq_false (by decide)
    simp only [f1, not_false_eq_true, true_implies, not_true_eq_false, false_implies, and_true]
    exact hp
  · have f1 : (nI (ckS 3) = 0) = True := eq_true (by decide)
    simp only [f1, not_false_eq_true, true_implies, not_true_eq_false, false_implies, true_and]
    exact hp
/-- what the reader holds behind a token -/
def tokQ (h : mH) (G : mG) (T : Nat) (tp : List Nat) (p : Nat) : Prop := ∃ q x, TQ h G T tp q (nI (ckS (tokR tp p).1)) (nI p) x ∧ ((tokR tp p).1 = 1 ∨ (tokR tp p).1 = 2 → q = nI (tokR tp p).2.2 ∧ x = nI (tokR tp p).2.1)
/-- readLetter does its work -/
def RLs (G : mG) : Prop := ∀ (d N T p : Nat) (tp : List Nat) (k t x : Int32) (h : mH) (post : Option Value → mH → Prop), 4 ≤ d → TQ h G T tp (nI p) k t x → p < tp.length → ¬ dig tp p → (∀ h' q k' x', TQ h' G T tp q k' t x' → k' = nI (ckS (tokR tp p).1) → ((tokR tp p).1 = 1 → q = nI (tokR tp p).2.2 ∧ x' = nI (tokR tp p).2.1) → mKeep h h' T (T + 1) → post none h') → MC G MX4_readLetter d 0 0 [.ref T] h N post
set_option maxRecDepth 10000 in
theorem t_readNumber {p0 : Nat} {k t x : Int32} (hd : 1 ≤ d) (hT : TQ h G T tp (nI p0) k t x) (hdg : dig tp p0)
    (hp : ∀ h' q k' x', TQ h' G T tp q k' t x' → k' = nI (ckS (tokR tp p0).1) → ((tokR tp p0).1 = 2 → q = nI (tokR tp p0).2.2 ∧ x' = nI (tokR tp p0).2.1) → mKeep h h' T (T + 1) → post none h') : MC G MX4_readNumber d 0 0 [.ref T] h N post := by
  obtain ⟨⟨Bt, ⟨t0, t1⟩, t2⟩, t3, t4⟩ := id hT
  have tR : tokR tp p0 = (if dig tp (p0 + 1) then (if dig tp (p0 + 2) then (3, 0, p0) else (2, 10 * (tp.getD p0 0 - 48) + (tp.getD (p0 + 1) 0 - 48), p0 + 2)) else (2, tp.getD p0 0 - 48, p0 + 1)) := by
    unfold tokR
    rw [if_pos hdg.1, if_neg (by omega), if_neg (by omega), if_neg (by omega), if_pos hdg]
  refine MC.of (L0 := [some (.ref T), none]) gd_X4_readNumber (Nat.le_of_ble_eq_true rfl) rfl (MW.run gd_X4_readNumber [7] 10 ?_)
  simp (disch := omega) only [↓EVi, ↓EVc, ↓ft_X4_readNumber, ↓reduceIte, ↓EV_obs, ↓EV_obn, ↓EV_ais, ↓EV_ain, ↓EV_ob t0, mdF, mRun, List.mem_cons, List.not_mem_nil, or_false, mtab_eq, Nat.reduceEqDiff, Nat.zero_add, mset2, b10, b00, not_true_eq_false, not_false_eq_true, true_implies, false_implies, implies_true, and_true, true_and, Nat.le_refl, true_or, or_true, eq_self, List.length_cons, List.length_nil, Nat.reduceAdd, Nat.reduceLT, Nat.reduceLeDiff]
  refine MW.rept (fun n L h' => ∃ j, L = [some (.ref T), some (.int (nI j))] ∧ n = 3 - j ∧ j ≤ 3 ∧ p0 + j ≤ tp.length ∧ (∀ i, i < j → dig tp (p0 + i)) ∧ (∃ X, TQ h' G T tp (nI (p0 + j)) k t X ∧ (j = 0 → X = 0) ∧ (j = 1 → X = nI (tp.getD p0 0 - 48)) ∧ (j = 2 → X = nI (10 * (tp.getD p0 0 - 48) + (tp.getD (p0 + 1) 0 - 48)))) ∧ mKeep h h' T (T + 1)) ?_ 3 _ _ ⟨0, rfl, rfl, by omega, by omega, fun i hi => absurd hi (Nat.not_lt_zero i), ⟨0, ⟨⟨Bt, ⟨mset_same, by rw [mset_ne (by omega)]; exact t1⟩, t2⟩, t3, t4⟩, fun _ => rfl, fun z => absurd z (by decide), fun z => absurd z (by decide)⟩, fun z hz => mset_ne (by omega)⟩
  rintro n L h' ⟨j, rfl, hn, hj3, hjl, hdj, ⟨X, hTX, x0, x1, x2⟩, hk⟩ ih
  obtain ⟨⟨Bt', ⟨q0, q1⟩, q2⟩, -, -⟩ := id hTX
  -- the end of the loop
  have out : (j = 3 ∨ ¬ dig tp (p0 + j)) → MW G MX4_readNumber (mz G d 0 0 post) 74 [some (.ref T), some (.int (nI j))] [] h' (N, 0, 0) := by
    intro z
    have j1 : 1 ≤ j := by
      rcases Nat.eq_zero_or_pos j with e | e
      · subst e
        rcases z with z | z
        · omega
        · exact absurd hdg z
      · exact e
    by_cases c3 : j = 3
    · have f1 : (nI j ≤ 2) = False := eq_false (by simp (disch := omega) only [z_nI, z_lit, z_neg, z_add, z_sub, z_mul, z_lt, z_le, z_eq, z_in, z_cl]; omega)
      refine MW.run1 gd_X4_readNumber [] 10 ?_
      simp (disch := omega) only [↓EVk, ↓w_if_eq, ↓w_an_ite, ↓mEndK, ↓w_retK0, ↓w_fitK, ↓w_dupK, ↓w_dup2K, w_an_back, ↓EVd, ↓ft_X4_readNumber, ↓reduceIte, ↓EV_obs, ↓EV_obn, ↓EV_ais, ↓EV_ain, ↓EV_ob q0, mdF, mRun, List.mem_cons, List.not_mem_nil, or_false, mtab_eq, Nat.reduceEqDiff, Nat.zero_add, f1, mset2, b10, b00, not_true_eq_false, not_false_eq_true, true_implies, false_implies, implies_true, and_true, true_and, Nat.le_refl, true_or, or_true, eq_self, List.length_cons, List.length_nil, Nat.reduceAdd, Nat.reduceLT, Nat.reduceLeDiff]
      have et : tokR tp p0 = (3, 0, p0) := by rw [tR, if_pos (hdj 1 (by omega)), if_pos (hdj 2 (by omega))]
      refine hp _ (nI (p0 + j)) 0 X ⟨⟨Bt', ⟨mset_same, by rw [mset_ne (by omega)]; exact q1⟩, q2⟩, t3, t4⟩ (by rw [et]; rfl) (fun z => by rw [et] at z; cases z) (fun z hz => by rw [mset_ne (by omega)]; exact hk z hz)
    · have f1 : (nI j ≤ 2) = True := eq_true (by simp (disch := omega) only [z_nI, z_lit, z_neg, z_add, z_sub, z_mul, z_lt, z_le, z_eq, z_in, z_cl]; omega)
      have z' := z.resolve_left c3
      refine MW.run1 gd_X4_readNumber [] 10 ?_
      simp (disch := omega) only [↓EVk, ↓w_if_eq, ↓w_an_ite, ↓mEndK, ↓w_retK0, ↓w_fitK, ↓w_dupK, ↓w_dup2K, w_an_back, ↓EVd, ↓ft_X4_readNumber, ↓reduceIte, ↓EV_obs, ↓EV_obn, ↓EV_ais, ↓EV_ain, ↓EV_ob q0, mdF, mRun, List.mem_cons, List.not_mem_nil, or_false, mtab_eq, Nat.reduceEqDiff, Nat.zero_add, f1, mset2, b10, b00, not_true_eq_false, not_false_eq_true, true_implies, false_implies, implies_true, and_true, true_and, Nat.le_refl, true_or, or_true, eq_self, List.length_cons, List.length_nil, Nat.reduceAdd, Nat.reduceLT, Nat.reduceLeDiff]
      have et : tokR tp p0 = (2, (if j = 1 then tp.getD p0 0 - 48 else 10 * (tp.getD p0 0 - 48) + (tp.getD (p0 + 1) 0 - 48)), p0 + j) := by
        rcases (by omega : j = 1 ∨ j = 2) with e | e
        · subst e
          rw [tR, if_neg z', if_pos rfl]
        · subst e
          rw [tR, if_pos (hdj 1 (by omega)), if_neg z', if_neg (by decide)]
      refine hp _ (nI (p0 + j)) 2 X ⟨⟨Bt', ⟨mset_same, by rw [mset_ne (by omega)]; exact q1⟩, q2⟩, t3, t4⟩ (by rw [et]; rfl) (fun _ => ?_) (fun z hz => by rw [mset_ne (by omega)]; exact hk z hz)
      rw [et]
      refine ⟨rfl, ?_⟩
      show X = nI (if j = 1 then _ else _)
      by_cases e : j = 1
      · rw [if_pos e]
        exact x1 e
      · rw [if_neg e]
        exact x2 (by omega)
  by_cases cl : p0 + j < tp.length
  case neg =>
    have f1 : (nI tp.length ≤ nI (p0 + j)) = True := eq_true (by simp (disch := omega) only [z_nI, z_lit, z_neg, z_add, z_sub, z_mul, z_lt, z_le, z_eq, z_in, z_cl]; omega)
    refine MW.run1 gd_X4_readNumber [7, 74] 10 ?_
    simp (disch := omega) only [↓EVk, ↓w_if_eq, ↓w_an_ite, ↓mEndK, ↓w_retK0, ↓w_fitK, ↓w_dupK, ↓w_dup2K, w_an_back, ↓EVd, ↓ft_X4_readNumber, ↓reduceIte, ↓EV_obs, ↓EV_obn, ↓EV_ais, ↓EV_ain, ↓EV_ob q0, mdF, mRun, List.mem_cons, List.not_mem_nil, or_false, mtab_eq, Nat.reduceEqDiff, Nat.zero_add, f1, mset2, b10, b00, not_true_eq_false, not_false_eq_true, true_implies, false_implies, implies_true, and_true, true_and, Nat.le_refl, true_or, or_true, eq_self, List.length_cons, List.length_nil, Nat.reduceAdd, Nat.reduceLT, Nat.reduceLeDiff]
    exact out (Or.inr (fun y => cl y.1))
  have f1 : (nI tp.length ≤ nI (p0 + j)) = False := eq_false (by simp (disch := omega) only [z_nI, z_lit, z_neg, z_add, z_sub, z_mul, z_lt, z_le, z_eq, z_in, z_cl]; omega)
  refine MW.run1 gd_X4_readNumber [7, 29, 74] 14 ?_
  simp (disch := omega) only [↓EVk, ↓w_if_eq, ↓w_an_ite, ↓mEndK, ↓w_retK0, ↓w_fitK, ↓w_dupK, ↓w_dup2K, w_an_back, ↓EVd, ↓ft_X4_readNumber, ↓reduceIte, ↓EV_obs, ↓EV_obn, ↓EV_ais, ↓EV_ain, ↓EV_ob q0, mdF, mRun, List.mem_cons, List.not_mem_nil, or_false, mtab_eq, Nat.reduceEqDiff, Nat.zero_add, f1, hd, mset2, b10, b00, not_true_eq_false, not_false_eq_true, true_implies, false_implies, implies_true, and_true, true_and, Nat.le_refl, true_or, or_true, eq_self, List.length_cons, List.length_nil, Nat.reduceAdd, Nat.reduceLT, Nat.reduceLeDiff]
  refine t_isFigure hTX cl ?_
  by_cases cd : dig tp (p0 + j)
  case neg =>
    rw [if_neg cd]
    simp (disch := omega) only [↓EVk, ↓w_if_eq, ↓w_an_ite, ↓mEndK, ↓w_retK0, ↓w_fitK, ↓w_dupK, ↓w_dup2K, w_an_back, ↓EVd, ↓ft_X4_readNumber, ↓reduceIte, ↓EV_obs, ↓EV_obn, ↓EV_ais, ↓EV_ain, mdF, mRun, List.mem_cons, List.not_mem_nil, or_false, mtab_eq, Nat.reduceEqDiff, Nat.zero_add, mset2, b10, b00, not_true_eq_false, not_false_eq_true, true_implies, false_implies, implies_true, and_true, true_and, Nat.le_refl, true_or, or_true, eq_self, List.length_cons, List.length_nil, Nat.reduceAdd, Nat.reduceLT, Nat.reduceLeDiff]
    exact out (Or.inr cd)
  rw [if_pos cd]
  simp (disch := omega) only [↓EVk, ↓w_if_eq, ↓w_an_ite, ↓mEndK, ↓w_retK0, ↓w_fitK, ↓w_dupK, ↓w_dup2K, w_an_back, ↓EVd, ↓ft_X4_readNumber, ↓reduceIte, ↓EV_obs, ↓EV_obn, ↓EV_ais, ↓EV_ain, mdF, mRun, List.mem_cons, List.not_mem_nil, or_false, mtab_eq, Nat.reduceEqDiff, Nat.zero_add, mset2, b10, b00, not_true_eq_false, not_false_eq_true, true_implies, false_implies, implies_true, and_true, true_and, Nat.le_refl, true_or, or_true, eq_self, List.length_cons, List.length_nil, Nat.reduceAdd, Nat.reduceLT, Nat.reduceLeDiff]
  by_cases c3 : j = 3
  · have f2 : ((2 : Int32) < nI j) = True := eq_true (by simp (disch := omega) only [z_nI, z_lit, z_neg, z_add, z_sub, z_mul, z_lt, z_le, z_eq, z_in, z_cl]; omega)
    refine MW.run1 gd_X4_readNumber [7, 74] 10 ?_
    simp (disch := omega) only [↓EVk, ↓w_if_eq, ↓w_an_ite, ↓mEndK, ↓w_retK0, ↓w_fitK, ↓w_dupK, ↓w_dup2K, w_an_back, ↓EVd, ↓ft_X4_readNumber, ↓reduceIte, ↓EV_obs, ↓EV_obn, ↓EV_ais, ↓EV_ain, mdF, mRun, List.mem_cons, List.not_mem_nil, or_false, mtab_eq, Nat.reduceEqDiff, Nat.zero_add, f2, mset2, b10, b00, not_true_eq_false, not_false_eq_true, true_implies, false_implies, implies_true, and_true, true_and, Nat.le_refl, true_or, or_true, eq_self, List.length_cons, List.length_nil, Nat.reduceAdd, Nat.reduceLT, Nat.reduceLeDiff]
    exact out (Or.inl c3)
  have f2 : ((2 : Int32) < nI j) = False := eq_false (by simp (disch := omega) only [z_nI, z_lit, z_neg, z_add, z_sub, z_mul, z_lt, z_le, z_eq, z_in, z_cl]; omega)
  have cb : (nI (p0 + j)).toNatClampNeg = p0 + j := nI_clamp (by omega)
  have vb : vp_in (nI (p0 + j)) 120 := vp_in_nI (by omega) (by decide)
  have eb : Bt' (p0 + j) = nI (tp.getD (p0 + j) 0) := by
    rw [q2 _ cl]
    exact (sgn8_small (t4 _ cl) (by omega)).mpr rfl
  refine MW.run1 gd_X4_readNumber [7, 74] 30 ?_
  simp (disch := omega) only [↓EVk, ↓w_if_eq, ↓w_an_ite, ↓mEndK, ↓w_retK0, ↓w_fitK, ↓w_dupK, ↓w_dup2K, w_an_back, ↓EVd, ↓ft_X4_readNumber, ↓reduceIte, ↓EV_obs, ↓EV_obn, ↓EV_ais, ↓EV_ain, ↓EV_ob q0, ↓EV_ai q1, mdF, mRun, List.mem_cons, List.not_mem_nil, or_false, mtab_eq, Nat.reduceEqDiff, Nat.zero_add, f2, cb, vb, eb, mset2, b10, b00, not_true_eq_false, not_false_eq_true, true_implies, false_implies, implies_true, and_true, true_and, Nat.le_refl, true_or, or_true, eq_self, List.length_cons, List.length_nil, Nat.reduceAdd, Nat.reduceLT, Nat.reduceLeDiff]
  rw [nI_1, nI_1]
  refine ih (3 - (j + 1)) _ _ (by omega) ⟨j + 1, rfl, rfl, by omega, by omega, fun i hi => ?_, ⟨_, ⟨⟨Bt', ⟨mset_same, by rw [mset_ne (by omega)]; exact q1⟩, q2⟩, t3, t4⟩, fun z => by omega, fun z => ?_, fun z => ?_⟩, fun z hz => by rw [mset_ne (by omega)]; exact hk z hz⟩
  · by_cases e : i = j
    · subst e
      exact cd
    · exact hdj i (by omega)
  · have e : j = 0 := by omega
    subst e
    rw [x0 rfl]
    have := hdg.2
    rw [Nat.add_zero]
    simp (disch := omega) only [z_nI, z_lit, z_neg, z_add, z_sub, z_mul, z_lt, z_le, z_eq, z_in, z_cl]
    omega
  · have e : j = 1 := by omega
    subst e
    rw [x1 rfl]
    have := hdg.2
    have := cd.2
    have := t4 p0 hdg.1
    simp (disch := omega) only [z_nI, z_lit, z_neg, z_add, z_sub, z_mul, z_lt, z_le, z_eq, z_in, z_cl]
    omega
end TPS
