/-! the model's small methods -/
theorem m_in {G : mG} {d N : Nat} {v lo hi : Int64} {h : mH} {post : Option Value → mH → Prop} (hp : post (some (.int (if lo ≤ v ∧ v ≤ hi then 1 else 0))) h) : MC G MX7_in d 0 0 [.long v, .long lo, .long hi] h N post := by
  refine MC.of (L0 := [some (.long v), none, some (.long lo), none, some (.long hi), none]) gd_X7_in (Nat.le_of_ble_eq_true rfl) rfl (MW.run gd_X7_in [] 20 ?_)
  simp only [↓EVi, ↓EVc, ↓ft_X7_in, ↓reduceIte, mRun, List.not_mem_nil, lg_cmp_lt, lg_cmp_gt]
  have e : (lo ≤ v ∧ v ≤ hi) ↔ (¬ v < lo ∧ ¬ hi < v) := by rw [Int64.not_lt, Int64.not_lt]
  simp only [e] at hp
  by_cases c1 : v < lo <;> by_cases c2 : hi < v <;> simp (decide := true) only [c1, c2, ↓reduceIte, not_true_eq_false, not_false_eq_true, and_self, and_true, true_and, and_false, false_and] at hp <;> simp (decide := true) only [c1, c2, Nat.le_refl, not_true_eq_false, not_false_eq_true, false_implies, true_implies, implies_true, true_and, and_true, and_self, or_true, true_or, hp]
theorem toL_le (a b : Int32) : a.toInt64 ≤ b.toInt64 ↔ a ≤ b := by
  rw [Int64.le_iff_toInt_le, Int32.le_iff_toInt_le, Int32.toInt_toInt64, Int32.toInt_toInt64]
theorem m_adds {G : mG} {d N : Nat} {k : Int32} {h : mH} {post : Option Value → mH → Prop} (hp : post (some (.int (if k = 0 then 2 else if k = 2 then -2 else 0))) h) : MC G MX7_adds d 0 0 [.int k] h N post := by
  refine MC.of (L0 := [some (.int k)]) gd_X7_adds (Nat.le_of_ble_eq_true rfl) rfl (MW.run gd_X7_adds [] 20 ?_)
  simp only [↓EVi, ↓EVc, ↓ft_X7_adds, ↓reduceIte, mRun, List.not_mem_nil]
  by_cases c0 : k = 0
  · simp_all
  · by_cases c2 : k = 2
    · simp_all
    · simp_all
/-- the model's object: its ints by their slots, its rows behind it -/
def mdF (M : Nat) (v : Nat → Int32) : List Value := [.int (v 0), .ref (M + 1), .ref (M + 2), .ref (M + 3), .int (v 4), .ref (M + 4), .ref (M + 5), .ref (M + 6), .int (v 8), .int (v 9), .int (v 10), .int (v 11), .int (v 12), .int (v 13), .int (v 14), .int (v 15), .int (v 16), .int (v 17), .ref (M + 7), .ref (M + 8), .ref (M + 9), .ref (M + 10), .ref (M + 11), .ref (M + 12), .int (v 24), .ref (M + 13), .ref (M + 14), .ref (M + 15), .ref (M + 16), .ref (M + 17)]
def mdLen (k : Nat) : Nat := [0, 8, 240, 240, 64, 64, 120, 4, 4, 248, 310, 310, 310, 15, 15, 15, 10, 30].getD k 0
def ModelC (h : mH) (G : mG) (M : Nat) (v : Nat → Int32) (a : Nat → Nat → Int32) : Prop := h M = some (.inr (7, mdF M v)) ∧ ∀ k, 1 ≤ k → k ≤ 17 → h (M + k) = some (.inl (gC G (if k = 17 then 2 else 0), mdLen k, .inl (a k)))
set_option maxRecDepth 10000 in
theorem m_is {G : mG} {d N M : Nat} {v : Nat → Int32} {a : Nat → Nat → Int32} {f : Int32} {h : mH} {post : Option Value → mH → Prop} (hd : 1 ≤ d) (hM : ModelC h G M v a) (hp : post (some (.int (if 0 ≤ f ∧ f ≤ v 0 - 1 then 1 else 0))) h) : MC G MX7_is d 0 0 [.ref M, .int f] h N post := by
  have h0 := hM.1
  refine MC.of (L0 := [some (.ref M), some (.int f)]) gd_X7_is (Nat.le_of_ble_eq_true rfl) rfl (MW.run gd_X7_is [] 20 ?_)
  simp only [↓EVi, ↓EVc, ↓ft_X7_is, ↓reduceIte, ↓EV_ob h0, mdF, mRun, List.not_mem_nil, mtab_eq, Nat.reduceEqDiff]
  refine ⟨hd, by decide, m_in ?_⟩
  simp only [↓EVi, ↓EVc, ↓ft_X7_is, ↓reduceIte, mRun, List.not_mem_nil]
  have e : ((0 : Int64) ≤ f.toInt64 ∧ f.toInt64 ≤ (v 0 - 1).toInt64) ↔ (0 ≤ f ∧ f ≤ v 0 - 1) := by
    rw [toL_le, show (0 : Int64) = (0 : Int32).toInt64 from rfl, toL_le]
  simp only [e]
  refine ⟨?_, trivial, Nat.le_refl _, hp⟩
  split
  · exact Or.inr rfl
  · exact Or.inl rfl
