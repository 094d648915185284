/-! the model: fault, drop, end -/
theorem ModelC_v {h : mH} {G : mG} {M : Nat} {v v' : Nat → Int32} {a : Nat → Nat → Int32} (hM : ModelC h G M v a) : ModelC (mset h M (.inr (7, mdF M v'))) G M v' a := by
  refine ⟨mset_same, fun k h1 h2 => ?_⟩
  rw [mset_ne (by omega)]
  exact hM.2 k h1 h2
set_option maxRecDepth 10000 in
theorem m_fault {G : mG} {d N M : Nat} {v : Nat → Int32} {a : Nat → Nat → Int32} {h : mH} {post : Option Value → mH → Prop} (hM : ModelC h G M v a) (hp : post (some (.int (v 9))) h) : MC G MX7_fault d 0 0 [.ref M] h N post := by
  have h0 := hM.1
  refine MC.of (L0 := [some (.ref M)]) gd_X7_fault (Nat.le_of_ble_eq_true rfl) rfl (MW.run gd_X7_fault [] 10 ?_)
  simp only [↓EVi, ↓EVc, ↓ft_X7_fault, ↓reduceIte, ↓EV_ob h0, mdF, mRun, List.not_mem_nil, mtab_eq, Nat.reduceEqDiff]
  exact ⟨trivial, Nat.le_refl _, hp⟩
set_option maxRecDepth 10000 in
theorem m_drop {G : mG} {d N M : Nat} {v : Nat → Int32} {a : Nat → Nat → Int32} {h : mH} {post : Option Value → mH → Prop} (hM : ModelC h G M v a) (hp0 : v 0 = 0 → post (some (.int (-4))) h) (hp1 : ¬ v 0 = 0 → ∀ h', ModelC h' G M (upd v 0 (v 0 - 1)) a → mKeep h h' M M → post (some (.int (v 0 - 1))) h') : MC G MX7_drop d 0 0 [.ref M] h N post := by
  have h0 := hM.1
  refine MC.of (L0 := [some (.ref M)]) gd_X7_drop (Nat.le_of_ble_eq_true rfl) rfl (MW.run gd_X7_drop [] 20 ?_)
  simp only [↓EVi, ↓EVc, ↓ft_X7_drop, ↓reduceIte, ↓EV_obs, ↓EV_ob h0, mdF, mRun, List.not_mem_nil, mtab_eq, Nat.reduceEqDiff]
  refine ⟨fun c => ⟨trivial, Nat.le_of_ble_eq_true rfl, trivial, Nat.le_refl _, hp1 c _ (ModelC_v (v' := upd v 0 (v 0 - 1)) hM) (fun q hq => mset_ne (by omega))⟩, fun c => ⟨trivial, Nat.le_refl _, hp0 (Classical.not_not.mp c)⟩⟩
set_option maxRecDepth 10000 in
theorem m_end {G : mG} {d N M : Nat} {v : Nat → Int32} {a : Nat → Nat → Int32} {n : Int32} {h : mH} {post : Option Value → mH → Prop} (hd : 1 ≤ d) (hM : ModelC h G M v a) (hp0 : ¬ (0 ≤ n ∧ n ≤ v 8) → post (some (.int (-1))) h) (hp1 : (0 ≤ n ∧ n ≤ v 8) → ∀ h', ModelC h' G M (upd v 8 n) a → mKeep h h' M M → post (some (.int (v 8))) h') : MC G MX7_end d 0 0 [.ref M, .int n] h N post := by
  have h0 := hM.1
  refine MC.of (L0 := [some (.ref M), some (.int n), none]) gd_X7_end (Nat.le_of_ble_eq_true rfl) rfl (MW.run gd_X7_end [] 30 ?_)
  simp only [↓EVi, ↓EVc, ↓ft_X7_end, ↓reduceIte, ↓EV_obs, ↓EV_ob h0, mdF, mRun, List.not_mem_nil, mtab_eq, Nat.reduceEqDiff]
  refine ⟨hd, by decide, m_in ?_⟩
  have e : ((0 : Int64) ≤ n.toInt64 ∧ n.toInt64 ≤ (v 8).toInt64) ↔ (0 ≤ n ∧ n ≤ v 8) := by
    rw [toL_le, show (0 : Int64) = (0 : Int32).toInt64 from rfl, toL_le]
  simp only [e]
  by_cases c : 0 ≤ n ∧ n ≤ v 8
  · rw [if_pos c]
    simp only [↓EVi, ↓EVc, ↓ft_X7_end, ↓reduceIte, ↓EV_obs, ↓EV_ob h0, mdF, mRun, List.not_mem_nil, mtab_eq, Nat.reduceEqDiff, Nat.zero_add]
    refine ⟨fun _ => ⟨trivial, Nat.le_of_ble_eq_true rfl, trivial, Nat.le_refl _, hp1 c _ (ModelC_v (v' := upd v 8 n) hM) (fun q hq => mset_ne (by omega))⟩, fun z => absurd (by decide) z⟩
  · rw [if_neg c]
    simp only [↓EVi, ↓EVc, ↓ft_X7_end, ↓reduceIte, ↓EV_obs, ↓EV_ob h0, mdF, mRun, List.not_mem_nil, mtab_eq, Nat.reduceEqDiff, Nat.zero_add]
    refine ⟨fun z => absurd trivial z, fun _ => ⟨trivial, Nat.le_refl _, hp0 c⟩⟩
