/-! the model: the reader's small methods -/
set_option maxRecDepth 10000 in
theorem m_begin {G : mG} {d N M : Nat} {v : Nat → Int32} {a : Nat → Nat → Int32} {h : mH} {post : Option Value → mH → Prop} (hM : ModelC h G M v a)
    (hp : ∀ h', ModelC h' G M (upd (upd (upd v 4 0) 16 0) 17 0) a → mKeep h h' M (M + 17) → post none h') : MC G MX7_begin d 0 0 [.ref M] h N post := by
  have h0 := hM.1
  refine MC.of (L0 := [some (.ref M)]) gd_X7_begin (Nat.le_of_ble_eq_true rfl) rfl (MW.run gd_X7_begin [] 20 ?_)
  simp (disch := omega) only [↓EVi, ↓EVc, ↓ft_X7_begin, ↓reduceIte, ↓EV_obs, ↓EV_ob h0, mdF, mRun, List.not_mem_nil, mtab_eq, Nat.reduceEqDiff]
  refine ⟨Nat.le_of_ble_eq_true rfl, Nat.le_of_ble_eq_true rfl, Nat.le_of_ble_eq_true rfl, trivial, Nat.le_refl _, hp _ (ModelC_v (v' := upd (upd (upd v 4 0) 16 0) 17 0) (ModelC_v (v' := upd (upd v 4 0) 16 0) (ModelC_v (v' := upd v 4 0) hM))) (fun q hq => ?_)⟩
  simp (disch := omega) only [mset_ne]
set_option maxRecDepth 10000 in
theorem m_byteAt {G : mG} {d N M : Nat} {v : Nat → Int32} {a : Nat → Nat → Int32} {k : Int32} {h : mH} {post : Option Value → mH → Prop} (hM : ModelC h G M v a) (hi : ¬ v 8 ≤ k → vp_in k 120)
    (hp : post (some (.int (if v 8 ≤ k then -4 else a 6 k.toNatClampNeg))) h) : MC G MX7_byteAt d 0 0 [.ref M, .int k] h N post := by
  have h0 := hM.1
  have a6 : h (M + 6) = some (.inl (gC G 0, 120, .inl (a 6))) := hM.2 6 (by decide) (by decide)
  refine MC.of (L0 := [some (.ref M), some (.int k)]) gd_X7_byteAt (Nat.le_of_ble_eq_true rfl) rfl (MW.run gd_X7_byteAt [] 20 ?_)
  simp (disch := omega) only [↓EVi, ↓EVc, ↓ft_X7_byteAt, ↓reduceIte, ↓EV_ob h0, ↓EV_ai a6, mdF, mRun, List.not_mem_nil, mtab_eq, Nat.reduceEqDiff]
  by_cases c : v 8 ≤ k
  · rw [if_pos c] at hp
    exact ⟨fun _ => ⟨trivial, Nat.le_refl _, hp⟩, fun z => absurd c z⟩
  · rw [if_neg c] at hp
    exact ⟨fun z => absurd z c, fun _ => ⟨hi c, trivial, Nat.le_refl _, hp⟩⟩
set_option maxRecDepth 10000 in
theorem m_fails {G : mG} {d N M : Nat} {v : Nat → Int32} {a : Nat → Nat → Int32} {k : Int32} {h : mH} {post : Option Value → mH → Prop} (hM : ModelC h G M v a)
    (hp0 : ¬ v 10 = 0 → post none h) (hp1 : v 10 = 0 → ∀ h', ModelC h' G M (upd (upd v 10 k) 11 (v 13)) a → mKeep h h' M (M + 17) → post none h') : MC G MX7_fails d 0 0 [.ref M, .int k] h N post := by
  have h0 := hM.1
  refine MC.of (L0 := [some (.ref M), some (.int k)]) gd_X7_fails (Nat.le_of_ble_eq_true rfl) rfl (MW.run gd_X7_fails [] 20 ?_)
  simp (disch := omega) only [↓EVi, ↓EVc, ↓ft_X7_fails, ↓reduceIte, ↓EV_obs, ↓EV_ob h0, mdF, mRun, List.not_mem_nil, mtab_eq, Nat.reduceEqDiff]
  refine ⟨fun c => ⟨trivial, Nat.le_refl _, hp0 c⟩, fun c => ⟨Nat.le_of_ble_eq_true rfl, Nat.le_of_ble_eq_true rfl, trivial, Nat.le_refl _, hp1 (Classical.not_not.mp c) _ (ModelC_v (v' := upd (upd v 10 k) 11 (v 13)) (ModelC_v (v' := upd v 10 k) hM)) (fun q hq => ?_)⟩⟩
  simp (disch := omega) only [mset_ne]
set_option maxRecDepth 10000 in
theorem m_hasPlace {G : mG} {d N M : Nat} {v : Nat → Int32} {a : Nat → Nat → Int32} {k n : Int32} {h : mH} {post : Option Value → mH → Prop} (hd : 1 ≤ d) (hM : ModelC h G M v a)
    (hp : post (some (.int (if 0 ≤ n ∧ n ≤ (if k = 0 then v 16 else v 16 - 2) then 1 else 0))) h) : MC G MX7_hasPlace d 0 0 [.ref M, .int k, .int n] h N post := by
  have h0 := hM.1
  refine MC.of (L0 := [some (.ref M), some (.int k), some (.int n)]) gd_X7_hasPlace (Nat.le_of_ble_eq_true rfl) rfl (MW.run gd_X7_hasPlace [] 30 ?_)
  simp (disch := omega) only [↓EVi, ↓EVc, ↓ft_X7_hasPlace, ↓reduceIte, ↓EV_ob h0, mdF, mRun, List.not_mem_nil, mtab_eq, Nat.reduceEqDiff]
  have e : ∀ y : Int32, ((0 : Int64) ≤ n.toInt64 ∧ n.toInt64 ≤ y.toInt64) ↔ (0 ≤ n ∧ n ≤ y) := by
    intro y
    rw [toL_le, show (0 : Int64) = (0 : Int32).toInt64 from rfl, toL_le]
  refine ⟨fun c => ⟨hd, by decide, m_in ?_⟩, fun c => ⟨hd, by decide, m_in ?_⟩⟩
  · rw [if_neg c] at hp
    simp only [e, ↓EVi, ↓EVc, ↓ft_X7_hasPlace, ↓reduceIte, mRun, List.not_mem_nil]
    refine ⟨?_, trivial, Nat.le_refl _, hp⟩
    split
    · exact Or.inr rfl
    · exact Or.inl rfl
  · rw [if_pos (Classical.not_not.mp c)] at hp
    simp only [e, ↓EVi, ↓EVc, ↓ft_X7_hasPlace, ↓reduceIte, mRun, List.not_mem_nil]
    refine ⟨?_, trivial, Nat.le_refl _, hp⟩
    split
    · exact Or.inr rfl
    · exact Or.inl rfl
