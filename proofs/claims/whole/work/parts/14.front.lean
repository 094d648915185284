/-! methods of Front, over its cells as they are -/
def FrontC (h : mH) (G : mG) (F : Nat) (K P A : Nat → Int32) (n x : Int32) : Prop := h F = some (.inr (0, [.ref (F + 1), .ref (F + 2), .ref (F + 3), .int n, .int x])) ∧ h (F + 1) = some (.inl (gC G 0, 30, .inl K)) ∧ h (F + 2) = some (.inl (gC G 0, 30, .inl P)) ∧ h (F + 3) = some (.inl (gC G 0, 31, .inl A))
/-- nothing changes but the cells from a to b -/
def mKeep (h h' : mH) (a b : Nat) : Prop := ∀ q, q < a ∨ b < q → h' q = h q
theorem t_strandsAdded {G : mG} {d N : Nat} {k : Int32} {h : mH} {post : Option Value → mH → Prop} (hp : post (some (.int (if k = 0 then 2 else if k = 2 then -2 else 0))) h) : MC G MX0_strandsAdded d 0 0 [.int k] h N post := by
  refine MC.of (L0 := [some (.int k)]) gd_X0_strandsAdded (Nat.le_of_ble_eq_true rfl) rfl (MW.run gd_X0_strandsAdded [] 20 ?_)
  simp only [↓EVi, ↓EVc, ↓ft_X0_strandsAdded, ↓reduceIte, mRun, List.not_mem_nil]
  by_cases c0 : k = 0
  · simp_all
  · by_cases c2 : k = 2
    · simp_all
    · simp_all
def fRoom (A : Nat → Int32) (n x k : Int32) : Int32 := if n < 30 then (if k = 1 then (if 12 ≤ x then 0 else 1) else if k = 0 then (if 10 < A n.toNatClampNeg + 2 then 0 else 1) else 1) else 0
def fStr (A : Nat → Int32) (n k p : Int32) : Int32 := if p < 0 then 0 else if (if k = 0 then A n.toNatClampNeg else A n.toNatClampNeg - 2) < p then 0 else 1
set_option maxRecDepth 10000 in
theorem t_hasRoomFor {G : mG} {d N : Nat} {F : Nat} {K P A : Nat → Int32} {n x k : Int32} {h : mH} {post : Option Value → mH → Prop} (hF : FrontC h G F K P A n x) (hn : vp_in n 31) (hp : post (some (.int (fRoom A n x k))) h) : MC G MX0_hasRoomFor d 0 0 [.ref F, .int k] h N post := by
  obtain ⟨h0, h1, h2, h3⟩ := hF
  refine MC.of (L0 := [some (.ref F), some (.int k)]) gd_X0_hasRoomFor (Nat.le_of_ble_eq_true rfl) rfl (MW.run gd_X0_hasRoomFor [] 60 ?_)
  simp only [↓EVi, ↓EVc, ↓ft_X0_hasRoomFor, ↓reduceIte, ↓EV_ob h0, ↓EV_ai h1, ↓EV_ai h2, ↓EV_ai h3, mRun, List.not_mem_nil, mtab_eq, Nat.reduceEqDiff]
  unfold fRoom at hp
  by_cases c1 : n < 30 <;> by_cases c2 : k = 1 <;> by_cases c3 : k = 0 <;> by_cases c4 : 12 ≤ x <;> by_cases c5 : 10 < A n.toNatClampNeg + 2 <;> simp (decide := true) only [c1, c2, c3, c4, c5, ↓reduceIte] at hp <;> simp (decide := true) only [c1, c2, c3, c4, c5, Nat.le_refl, hn, ↓reduceIte, not_true_eq_false, not_false_eq_true, false_implies, true_implies, implies_true, true_and, and_true, and_self, or_true, true_or, hp]
set_option maxRecDepth 10000 in
theorem t_hasStrandsFor {G : mG} {d N : Nat} {F : Nat} {K P A : Nat → Int32} {n x k p : Int32} {h : mH} {post : Option Value → mH → Prop} (hF : FrontC h G F K P A n x) (hn : vp_in n 31) (hp : post (some (.int (fStr A n k p))) h) : MC G MX0_hasStrandsFor d 0 0 [.ref F, .int k, .int p] h N post := by
  obtain ⟨h0, h1, h2, h3⟩ := hF
  refine MC.of (L0 := [some (.ref F), some (.int k), some (.int p), none]) gd_X0_hasStrandsFor (Nat.le_of_ble_eq_true rfl) rfl (MW.run gd_X0_hasStrandsFor [] 60 ?_)
  simp only [↓EVi, ↓EVc, ↓ft_X0_hasStrandsFor, ↓reduceIte, ↓EV_ob h0, ↓EV_ai h1, ↓EV_ai h2, ↓EV_ai h3, mRun, List.not_mem_nil, mtab_eq, Nat.reduceEqDiff, Nat.zero_add]
  unfold fStr at hp
  by_cases c1 : k = 0 <;> by_cases c2 : p < 0 <;> by_cases c3 : A n.toNatClampNeg < p <;> by_cases c4 : A n.toNatClampNeg - 2 < p <;> simp only [c1, c2, c3, c4, ↓reduceIte] at hp <;> simp only [c1, c2, c3, c4, Nat.le_refl, hn, ↓reduceIte, not_true_eq_false, not_false_eq_true, false_implies, true_implies, implies_true, true_and, and_true, and_self, or_true, true_or, hp]
set_option maxRecDepth 10000 in
theorem t_append {G : mG} {d N : Nat} {F : Nat} {K P A : Nat → Int32} {n x k p : Int32} {h : mH} {post : Option Value → mH → Prop} (hF : FrontC h G F K P A n x) (hd : 2 ≤ d) (hn : vp_in n 31) (hn2 : n < 30 → vp_in n 30 ∧ vp_in (n + 1) 31)
    (hp0 : ¬ (¬ k < 0 ∧ ¬ 2 < k ∧ fRoom A n x k = 1 ∧ fStr A n k p = 1) → post (some (.int 0)) h)
    (hp1 : ¬ k < 0 ∧ ¬ 2 < k ∧ fRoom A n x k = 1 ∧ fStr A n k p = 1 → ∀ h', FrontC h' G F (upd K n.toNatClampNeg k) (upd P n.toNatClampNeg p) (upd A (n + 1).toNatClampNeg (A n.toNatClampNeg + (if k = 0 then 2 else if k = 2 then -2 else 0))) (n + 1) (x + (if k = 1 then 1 else 0)) → mKeep h h' F (F + 3) → post (some (.int 1)) h') : MC G MX0_append d 0 0 [.ref F, .int k, .int p] h N post := by
  have hF0 := hF
  obtain ⟨h0, h1, h2, h3⟩ := hF
  have r01 : fRoom A n x k = 0 ∨ fRoom A n x k = 1 := by unfold fRoom; (repeat' split) <;> first | exact Or.inl rfl | exact Or.inr rfl
  have s01 : fStr A n k p = 0 ∨ fStr A n k p = 1 := by unfold fStr; (repeat' split) <;> first | exact Or.inl rfl | exact Or.inr rfl
  refine MC.of (L0 := [some (.ref F), some (.int k), some (.int p)]) gd_X0_append (Nat.le_of_ble_eq_true rfl) rfl (MW.run gd_X0_append [] 80 ?_)
  simp only [↓EVi, ↓EVc, ↓ft_X0_append, ↓reduceIte, ↓EV_ob h0, ↓EV_ai h1, ↓EV_ai h2, ↓EV_ai h3, mRun, List.not_mem_nil, mtab_eq, Nat.reduceEqDiff]
  refine ⟨fun c1 => ⟨Or.inl trivial, trivial, Nat.le_refl _, hp0 (fun q => q.1 c1)⟩, fun c1 => ⟨fun c2 => ⟨Or.inl trivial, trivial, Nat.le_refl _, hp0 (fun q => q.2.1 c2)⟩, fun c2 => ⟨by omega, by decide, t_hasRoomFor hF0 hn ?_⟩⟩⟩
  simp only [↓EVi, ↓EVc, ↓ft_X0_append, ↓reduceIte, ↓EV_ob h0, ↓EV_ai h1, ↓EV_ai h2, ↓EV_ai h3, List.not_mem_nil, mtab_eq, Nat.reduceEqDiff]
  refine ⟨fun c3 => ⟨Or.inl trivial, trivial, Nat.le_refl _, hp0 (fun q => by rw [c3] at q; exact absurd q.2.2.1 (by decide))⟩, fun c3 => ⟨by omega, by decide, t_hasStrandsFor hF0 hn ?_⟩⟩
  have c3 : fRoom A n x k = 1 := r01.resolve_left c3
  have cn : n < 30 := by
    by_cases q : n < 30
    · exact q
    · unfold fRoom at c3
      rw [if_neg q] at c3
      exact absurd c3 (by decide)
  obtain ⟨hn3, hn4⟩ := hn2 cn
  simp (disch := omega) only [↓EVi, ↓EVc, ↓ft_X0_append, ↓reduceIte, ↓EV_obs, ↓EV_ais, ↓EV_obn, ↓EV_ain, ↓EV_ob h0, ↓EV_ai h1, ↓EV_ai h2, ↓EV_ai h3, List.not_mem_nil, mtab_eq, Nat.reduceEqDiff]
  refine ⟨fun c4 => ⟨hn3, hn3, hn, by omega, by decide, t_strandsAdded ?_⟩, fun c4 => ⟨Or.inl trivial, trivial, Nat.le_refl _, hp0 (fun q => c4 (fun z => by rw [z] at q; exact absurd q.2.2.2 (by decide)))⟩⟩
  have c4 : fStr A n k p = 1 := s01.resolve_left c4
  simp (disch := omega) only [↓EVi, ↓EVc, ↓ft_X0_append, ↓reduceIte, ↓EV_obs, ↓EV_ais, ↓EV_obn, ↓EV_ain, ↓EV_ob h0, ↓EV_ai h1, ↓EV_ai h2, ↓EV_ai h3, List.not_mem_nil, mtab_eq, Nat.reduceEqDiff]
  have fin : ∀ y : Int32, y = x + (if k = 1 then 1 else 0) → post (some (Value.int 1)) (mset (mset (mset (mset (mset h (F + 1) (Sum.inl (gC G 0, 30, Sum.inl (upd K n.toNatClampNeg k)))) (F + 2) (Sum.inl (gC G 0, 30, Sum.inl (upd P n.toNatClampNeg p)))) (F + 3) (Sum.inl (gC G 0, 31, Sum.inl (upd A (n + 1).toNatClampNeg (A n.toNatClampNeg + if k = 0 then 2 else if k = 2 then -2 else 0))))) F (Sum.inr (0, [Value.ref (F + 1), Value.ref (F + 2), Value.ref (F + 3), Value.int n, Value.int y]))) F (Sum.inr (0, [Value.ref (F + 1), Value.ref (F + 2), Value.ref (F + 3), Value.int (n + 1), Value.int y]))) := by
    intro y hy
    subst hy
    refine hp1 ⟨c1, c2, c3, c4⟩ _ ?_ ?_
    · simp (disch := omega) only [FrontC, mset_same, mset_ne, and_self]
    · intro q hq
      simp (disch := omega) only [mset_ne]
  refine ⟨hn4, trivial, fun c5 => ⟨Nat.le_of_ble_eq_true rfl, trivial, Nat.le_of_ble_eq_true rfl, Or.inr trivial, trivial, Nat.le_refl _, fin _ (by rw [if_neg c5])⟩, fun c5 => ⟨Nat.le_of_ble_eq_true rfl, trivial, Nat.le_of_ble_eq_true rfl, Or.inr trivial, trivial, Nat.le_refl _, fin _ (by rw [if_pos (Classical.not_not.mp c5)])⟩⟩
set_option maxRecDepth 10000 in
theorem t_clear {G : mG} {d N : Nat} {F : Nat} {K P A : Nat → Int32} {n x : Int32} {h : mH} {post : Option Value → mH → Prop} (hF : FrontC h G F K P A n x)
    (hp : ∀ h', FrontC h' G F K P (upd A 0 0) 0 0 → mKeep h h' F (F + 3) → post none h') : MC G MX0_clear d 0 0 [.ref F] h N post := by
  obtain ⟨h0, h1, h2, h3⟩ := hF
  refine MC.of (L0 := [some (.ref F)]) gd_X0_clear (Nat.le_of_ble_eq_true rfl) rfl (MW.run gd_X0_clear [] 30 ?_)
  simp (disch := omega) only [↓EVi, ↓EVc, ↓ft_X0_clear, ↓reduceIte, ↓EV_obs, ↓EV_ais, ↓EV_obn, ↓EV_ain, ↓EV_ob h0, ↓EV_ai h1, ↓EV_ai h2, ↓EV_ai h3, mRun, List.not_mem_nil, mtab_eq, Nat.reduceEqDiff]
  refine ⟨Nat.le_of_ble_eq_true rfl, Nat.le_of_ble_eq_true rfl, (by unfold vp_in; decide), trivial, Nat.le_refl _, hp _ ?_ ?_⟩
  · simp (disch := omega) only [FrontC, mset_same, mset_ne, and_self, h1, h2]
    exact ⟨trivial, trivial, trivial, rfl⟩
  · intro q hq
    simp (disch := omega) only [mset_ne]
set_option maxRecDepth 10000 in
theorem t_isWhole {G : mG} {d N : Nat} {F : Nat} {K P A : Nat → Int32} {n x : Int32} {h : mH} {post : Option Value → mH → Prop} (hF : FrontC h G F K P A n x) (hn : vp_in n 31)
    (hp : post (some (.int (if n ≤ 0 then 0 else if A n.toNatClampNeg = 0 then 1 else 0))) h) : MC G MX0_isWhole d 0 0 [.ref F] h N post := by
  obtain ⟨h0, h1, h2, h3⟩ := hF
  refine MC.of (L0 := [some (.ref F)]) gd_X0_isWhole (Nat.le_of_ble_eq_true rfl) rfl (MW.run gd_X0_isWhole [] 40 ?_)
  simp only [↓EVi, ↓EVc, ↓ft_X0_isWhole, ↓reduceIte, ↓EV_ob h0, ↓EV_ai h1, ↓EV_ai h2, ↓EV_ai h3, mRun, List.not_mem_nil]
  by_cases c1 : n ≤ 0 <;> by_cases c2 : A n.toNatClampNeg = 0 <;> simp (decide := true) only [c1, c2, ↓reduceIte] at hp <;> simp (decide := true) only [c1, c2, Nat.le_refl, hn, ↓reduceIte, not_true_eq_false, not_false_eq_true, false_implies, true_implies, implies_true, true_and, and_true, and_self, or_true, true_or, hp]
