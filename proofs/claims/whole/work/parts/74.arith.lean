/-! halves, and the rest with the divisor's sign -/
theorem z_half (x : Int) (hx : -2147483648 ≤ x ∧ x < 2147483648) : (zI x / 2 : Int32) = zI (x.tdiv 2) := by
  have hb : -2147483648 ≤ x.tdiv 2 ∧ x.tdiv 2 < 2147483648 := by
    rw [show x.tdiv 2 = if 0 ≤ x then x / 2 else -((-x) / 2) from ?_]
    · split <;> omega
    · split
      · rename_i h
        exact Int.tdiv_eq_ediv_of_nonneg h
      · rename_i h
        have : x = -(-x) := by omega
        rw [this, Int.neg_tdiv, Int.tdiv_eq_ediv_of_nonneg (by omega)]
        omega
  rw [← Int32.toInt_inj, z_toInt hb, Int32.toInt_div, z_toInt hx, show (2 : Int32).toInt = 2 from rfl]
  exact Int.bmod_eq_of_le (by omega) (by omega)
theorem nI_half {t : Nat} (h : t < 1000000) : (nI (2 * t) / 2 : Int32) = nI t := by
  rw [z_nI, z_half _ (by omega), z_nI]
  congr 1
  rw [Int.tdiv_eq_ediv_of_nonneg (by omega)]
  omega
theorem x_neg (x : Int32) : (x < 0) ↔ x.toBitVec.msb = true := by
  rw [Int32.lt_iff_toInt_lt, BitVec.msb_eq_toInt, decide_eq_true_iff]
  exact Iff.rfl
theorem xor_neg {x m : Int32} (hm : 0 ≤ m) : (x ^^^ m < 0) ↔ x < 0 := by
  have h1 : ¬ m < 0 := by rw [Int32.not_lt]; exact hm
  rw [x_neg] at h1
  rw [x_neg, x_neg, Int32.toBitVec_xor, BitVec.msb_xor]
  cases x.toBitVec.msb <;> cases h : m.toBitVec.msb
  · simp
  · exact absurd h h1
  · simp
  · exact absurd h h1
theorem rem_eq {x m : Int} (hx : -2147483648 ≤ x ∧ x < 2147483648) (hm : 0 < m ∧ m < 2147483648) : zI x - zI x / zI m * zI m = zI (x.tmod m) ∧ (-m < x.tmod m ∧ x.tmod m < m) ∧ (x.tmod m < 0 → x < 0) ∧ (x < 0 → x.tmod m ≤ 0) := by
  have hq : zI x / zI m = zI (x.tdiv m) := by
    have hb : -2147483648 ≤ x.tdiv m ∧ x.tdiv m < 2147483648 := by
      rcases Int.le_total 0 x with h | h
      · rw [Int.tdiv_eq_ediv_of_nonneg h]
        have h1 := Int.ediv_nonneg h (Int.le_of_lt hm.1)
        have h2 := Int.ediv_le_self m h
        omega
      · have e : x = -(-x) := by omega
        rw [e, Int.neg_tdiv, Int.tdiv_eq_ediv_of_nonneg (by omega)]
        have h1 := Int.ediv_nonneg (a := -x) (by omega) (Int.le_of_lt hm.1)
        have h2 := Int.ediv_le_self (a := -x) m (by omega)
        omega
    rw [← Int32.toInt_inj, z_toInt hb, Int32.toInt_div, z_toInt hx, z_toInt (by omega)]
    exact Int.bmod_eq_of_le (by omega) (by omega)
  refine ⟨?_, ?_, ?_, ?_⟩
  · rw [hq, z_mul, z_sub]
    congr 1
    have := Int.tmod_add_mul_tdiv x m
    rw [Int.mul_comm] at this
    omega
  · rcases Int.le_total 0 x with h | h
    · rw [Int.tmod_eq_emod_of_nonneg h]
      have h1 := Int.emod_nonneg x (by omega : m ≠ 0)
      have h2 := Int.emod_lt_of_pos x hm.1
      omega
    · have e : x = -(-x) := by omega
      rw [e, Int.neg_tmod, Int.tmod_eq_emod_of_nonneg (by omega)]
      have h1 := Int.emod_nonneg (-x) (by omega : m ≠ 0)
      have h2 := Int.emod_lt_of_pos (-x) hm.1
      omega
  · intro h
    apply Classical.byContradiction
    intro n
    rw [Int.tmod_eq_emod_of_nonneg (by omega)] at h
    have h1 := Int.emod_nonneg x (by omega : m ≠ 0)
    omega
  · intro h
    have e : x = -(-x) := by omega
    rw [e, Int.neg_tmod, Int.tmod_eq_emod_of_nonneg (by omega)]
    have h1 := Int.emod_nonneg (-x) (by omega : m ≠ 0)
    omega
/-- Math.floorMod as its code has it -/
def fmI (x m : Int32) : Int32 := if x ^^^ m < 0 ∧ ¬ x - x / m * m = 0 then x - x / m * m + m else x - x / m * m
theorem fmI_eq {x m : Int32} (hm : 0 < m) : fmI x m = if x - x / m * m < 0 then x - x / m * m + m else x - x / m * m := by
  obtain ⟨z, z1, z2, rfl⟩ := z_of x
  obtain ⟨w, w1, w2, rfl⟩ := z_of m
  have hw : 0 < w := by
    simp (disch := omega) only [z_nI, z_lit, z_neg, z_add, z_sub, z_mul, z_lt, z_le, z_eq, z_in, z_cl] at hm
    exact hm
  obtain ⟨r1, r2, r3, r4⟩ := rem_eq (x := z) (m := w) ⟨z1, z2⟩ ⟨hw, w2⟩
  unfold fmI
  have e1 : (zI z ^^^ zI w < 0) ↔ z < 0 := by
    rw [xor_neg (by simp (disch := omega) only [z_nI, z_lit, z_neg, z_add, z_sub, z_mul, z_lt, z_le, z_eq, z_in, z_cl]; omega)]
    simp (disch := omega) only [z_nI, z_lit, z_neg, z_add, z_sub, z_mul, z_lt, z_le, z_eq, z_in, z_cl]
  have e2 : (zI (z.tmod w) = 0) ↔ z.tmod w = 0 := by
    simp (disch := omega) only [z_nI, z_lit, z_neg, z_add, z_sub, z_mul, z_lt, z_le, z_eq, z_in, z_cl]
  have e3 : (zI (z.tmod w) < 0) ↔ z.tmod w < 0 := by
    simp (disch := omega) only [z_nI, z_lit, z_neg, z_add, z_sub, z_mul, z_lt, z_le, z_eq, z_in, z_cl]
  rw [r1]
  by_cases c : z.tmod w < 0
  · rw [if_pos (e3.mpr c), if_pos ⟨e1.mpr (r3 c), fun q => by have := e2.mp q; omega⟩]
  · rw [if_neg (fun q => c (e3.mp q)), if_neg (fun q => by
      have q1 := r4 (e1.mp q.1)
      exact q.2 (e2.mpr (by omega)))]
theorem fmI_pos {z : Int} {n : Nat} (hn : 0 < n) : 0 < n := hn
section FMD
variable {G : mG} {d N : Nat} {h : mH} {post : Option Value → mH → Prop}
set_option maxRecDepth 10000 in
theorem j_floorMod {x m : Int32} (hm : ¬ m = 0) (hp : post (some (.int (fmI x m))) h) : MC G MJ9_floorMod_7cf53 d 0 0 [.int x, .int m] h N post := by
  unfold fmI at hp
  refine MC.of (L0 := [some (.int x), some (.int m), none]) gd_J9_floorMod_7cf53 (Nat.le_of_ble_eq_true rfl) rfl (MW.run gd_J9_floorMod_7cf53 [] 24 ?_)
  simp (disch := omega) only [↓EVi, ↓EVc, ↓ft_J9_floorMod_7cf53, ↓reduceIte, ↓EV_obs, ↓EV_obn, ↓EV_ais, ↓EV_ain, mdF, mRun, List.mem_cons, List.not_mem_nil, or_false, mtab_eq, Nat.reduceEqDiff, Nat.zero_add, hm, mset2, b10, b00, not_true_eq_false, not_false_eq_true, true_implies, false_implies, implies_true, and_true, true_and, Nat.le_refl, true_or, or_true, eq_self, List.length_cons, List.length_nil, Nat.reduceAdd, Nat.reduceLT, Nat.reduceLeDiff]
  by_cases c1 : x ^^^ m < 0
  · by_cases c2 : x - x / m * m = 0
    · rw [if_neg (fun q => q.2 c2)] at hp
      simp only [Int32.not_le.mpr c1, c2, false_implies, true_implies, not_true_eq_false, not_false_eq_true, true_and, and_true] at hp ⊢
      exact hp
    · rw [if_pos ⟨c1, c2⟩] at hp
      simp only [Int32.not_le.mpr c1, c2, false_implies, true_implies, not_true_eq_false, not_false_eq_true, true_and, and_true] at hp ⊢
      exact hp
  · rw [if_neg (fun q => c1 q.1)] at hp
    simp only [Int32.not_lt.mp c1, false_implies, true_implies, not_true_eq_false, not_false_eq_true, true_and, and_true] at hp ⊢
    exact hp
end FMD
