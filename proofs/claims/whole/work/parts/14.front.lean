/-! methods of Front -/
def FrontC (h : mH) (G : mG) (F : Nat) (K P A : Nat → Int32) (n x : Int32) : Prop := h F = some (.inr (0, [.ref (F + 1), .ref (F + 2), .ref (F + 3), .int n, .int x])) ∧ h (F + 1) = some (.inl (gC G 0, 30, .inl K)) ∧ h (F + 2) = some (.inl (gC G 0, 30, .inl P)) ∧ h (F + 3) = some (.inl (gC G 0, 31, .inl A))
theorem t_strandsAdded {G : mG} {d N : Nat} {k : Int32} {h : mH} {post : Option Value → mH → Prop} (hp : post (some (.int (if k = 0 then 2 else if k = 2 then -2 else 0))) h) : MC G MX0_strandsAdded d 0 0 [.int k] h N post := by
  refine MC.of (L0 := [some (.int k)]) gd_X0_strandsAdded (Nat.le_of_ble_eq_true rfl) rfl (MW.run gd_X0_strandsAdded [] 20 ?_)
  simp only [↓EVi, ↓EVc, ↓ft_X0_strandsAdded, ↓reduceIte, mRun, List.not_mem_nil]
  by_cases c0 : k = 0
  · simp_all
  · by_cases c2 : k = 2
    · simp_all
    · simp_all
