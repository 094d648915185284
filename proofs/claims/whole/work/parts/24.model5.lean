/-! the model: isEvent, isTooMuch, comes -/
set_option maxRecDepth 10000 in
theorem m_isTooMuch {G : mG} {d N M : Nat} {v : Nat → Int32} {a : Nat → Nat → Int32} {k : Int32} {h : mH} {post : Option Value → mH → Prop} (hM : ModelC h G M v a)
    (hp : post (some (.int (if v 4 = 30 ∨ (k = 1 ∧ v 17 = 12) ∨ (k = 0 ∧ 10 < v 16 + 2) then 1 else 0))) h) : MC G MX7_isTooMuch d 0 0 [.ref M, .int k] h N post := by
  have h0 := hM.1
  refine MC.of (L0 := [some (.ref M), some (.int k)]) gd_X7_isTooMuch (Nat.le_of_ble_eq_true rfl) rfl (MW.run gd_X7_isTooMuch [] 40 ?_)
  simp (disch := omega) only [↓EVi, ↓EVc, ↓ft_X7_isTooMuch, ↓reduceIte, ↓EV_ob h0, mdF, mRun, List.not_mem_nil, mtab_eq, Nat.reduceEqDiff]
  have e : (v 16 + 2 ≤ 10) ↔ ¬ 10 < v 16 + 2 := Int32.not_lt.symm
  by_cases c1 : v 4 = 30 <;> by_cases c2 : k = 1 <;> by_cases c3 : v 17 = 12 <;> by_cases c4 : k = 0 <;> by_cases c5 : 10 < v 16 + 2 <;> simp (decide := true) only [c1, c2, c3, c4, c5, true_and, and_true, false_and, and_false, and_self, or_false, false_or, or_true, true_or, or_self, ↓reduceIte] at hp <;> simp (decide := true) only [e, c1, c2, c3, c4, c5, Nat.le_refl, not_true_eq_false, not_false_eq_true, false_implies, true_implies, implies_true, true_and, and_true, and_self, or_true, true_or, hp]
set_option maxRecDepth 10000 in
theorem m_isEvent {G : mG} {d N M : Nat} {v : Nat → Int32} {a : Nat → Nat → Int32} {f i : Int32} {h : mH} {post : Option Value → mH → Prop} (hd : 2 ≤ d) (hM : ModelC h G M v a) (hf : (0 ≤ f ∧ f ≤ v 0 - 1) → vp_in f 8)
    (hp : post (some (.int (if (0 ≤ f ∧ f ≤ v 0 - 1) ∧ (0 ≤ i ∧ i ≤ a 1 f.toNatClampNeg - 1) then 1 else 0))) h) : MC G MX7_isEvent d 0 0 [.ref M, .int f, .int i] h N post := by
  have h0 := hM.1
  have a1 : h (M + 1) = some (.inl (gC G 0, 8, .inl (a 1))) := hM.2 1 (by decide) (by decide)
  refine MC.of (L0 := [some (.ref M), some (.int f), some (.int i)]) gd_X7_isEvent (Nat.le_of_ble_eq_true rfl) rfl (MW.run gd_X7_isEvent [] 40 ?_)
  simp (disch := omega) only [↓EVi, ↓EVc, ↓ft_X7_isEvent, ↓reduceIte, ↓EV_ob h0, ↓EV_ai a1, mdF, mRun, List.not_mem_nil, mtab_eq, Nat.reduceEqDiff]
  refine ⟨by omega, by decide, m_is (by omega) hM ?_⟩
  by_cases c : 0 ≤ f ∧ f ≤ v 0 - 1
  · simp only [c, and_self, true_and, ↓reduceIte] at hp
    rw [if_pos c]
    simp (disch := omega) only [↓EVi, ↓EVc, ↓ft_X7_isEvent, ↓reduceIte, ↓EV_ob h0, ↓EV_ai a1, mdF, mRun, List.not_mem_nil, mtab_eq, Nat.reduceEqDiff]
    refine ⟨fun z => absurd z (by decide), fun _ => ⟨hf c, by omega, by decide, m_in ?_⟩⟩
    have e : ((0 : Int64) ≤ i.toInt64 ∧ i.toInt64 ≤ (a 1 f.toNatClampNeg - 1).toInt64) ↔ (0 ≤ i ∧ i ≤ a 1 f.toNatClampNeg - 1) := by
      rw [toL_le, show (0 : Int64) = (0 : Int32).toInt64 from rfl, toL_le]
    simp only [e]
    by_cases c2 : 0 ≤ i ∧ i ≤ a 1 f.toNatClampNeg - 1
    · rw [if_pos c2] at hp ⊢
      simp (disch := omega) only [↓EVi, ↓EVc, ↓ft_X7_isEvent, ↓reduceIte, mRun, List.not_mem_nil, mtab_eq, Nat.reduceEqDiff]
      exact ⟨fun z => absurd z (by decide), fun _ => ⟨Or.inr trivial, trivial, Nat.le_refl _, hp⟩⟩
    · rw [if_neg c2] at hp ⊢
      simp (disch := omega) only [↓EVi, ↓EVc, ↓ft_X7_isEvent, ↓reduceIte, mRun, List.not_mem_nil, mtab_eq, Nat.reduceEqDiff]
      exact ⟨fun _ => ⟨Or.inl trivial, trivial, Nat.le_refl _, hp⟩, fun z => absurd trivial z⟩
  · rw [if_neg (fun q => c q.1)] at hp
    rw [if_neg c]
    simp (disch := omega) only [↓EVi, ↓EVc, ↓ft_X7_isEvent, ↓reduceIte, ↓EV_ob h0, ↓EV_ai a1, mdF, mRun, List.not_mem_nil, mtab_eq, Nat.reduceEqDiff]
    exact ⟨fun _ => ⟨Or.inl trivial, trivial, Nat.le_refl _, hp⟩, fun z => absurd trivial z⟩
