/-! the model: count -/
set_option maxRecDepth 10000 in
theorem m_count {G : mG} {d N M : Nat} {v : Nat → Int32} {a : Nat → Nat → Int32} {k : Int32} {h : mH} {post : Option Value → mH → Prop} (hM : ModelC h G M v a)
    (hp : post (some (.int (if k = 0 then v 0 else if k = 1 then (if a 7 0 = -4 then -4 else a 8 0) else if k = 2 then v 8 else -1))) h) : MC G MX7_count d 0 0 [.ref M, .int k] h N post := by
  have h0 := hM.1
  have a7 : h (M + 7) = some (.inl (gC G 0, 4, .inl (a 7))) := hM.2 7 (by decide) (by decide)
  have a8 : h (M + 8) = some (.inl (gC G 0, 4, .inl (a 8))) := hM.2 8 (by decide) (by decide)
  refine MC.of (L0 := [some (.ref M), some (.int k)]) gd_X7_count (Nat.le_of_ble_eq_true rfl) rfl (MW.run gd_X7_count [] 40 ?_)
  simp (disch := omega) only [↓EVi, ↓EVc, ↓ft_X7_count, ↓reduceIte, ↓EV_ob h0, ↓EV_ai a7, ↓EV_ai a8, mdF, mRun, List.not_mem_nil, mtab_eq, Nat.reduceEqDiff]
  have z0 : Int32.toNatClampNeg 0 = 0 := rfl
  have v4 : vp_in 0 4 := by unfold vp_in; decide
  simp only [z0, v4, true_and]
  by_cases c0 : k = 0 <;> by_cases c1 : k = 1 <;> by_cases c2 : k = 2 <;> by_cases c3 : a 7 0 = -4 <;> simp (decide := true) only [c0, c1, c2, c3, ↓reduceIte] at hp <;> simp (decide := true) only [c0, c1, c2, c3, Nat.le_refl, not_true_eq_false, not_false_eq_true, false_implies, true_implies, implies_true, true_and, and_true, and_self, or_true, true_or, hp]
