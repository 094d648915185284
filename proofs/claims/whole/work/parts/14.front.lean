/-! tried first: small methods of Front -/
theorem t_strandsAdded {G : mG} {d N : Nat} {k : Int32} {h : mH} {post : Option Value → mH → Prop} (hp : post (some (.int (if k = 0 then 2 else if k = 2 then -2 else 0))) h) : MC G MX0_strandsAdded d 0 0 [.int k] h N post := by
  refine MC.of gd_X0_strandsAdded (Nat.le_of_ble_eq_true rfl) rfl (MW.run gd_X0_strandsAdded [] 20 ?_)
  simp only [↓EVi, ↓EVc, ↓ft_X0_strandsAdded, ↓reduceIte, mRun, List.not_mem_nil, mEnt, List.replicate, List.nil_append, List.cons_append, List.append_nil]
  sorry
