/-! the model: comes -/
set_option maxRecDepth 10000 in
theorem m_comes {G : mG} {d N M : Nat} {v : Nat → Int32} {a : Nat → Nat → Int32} {k p : Int32} {h : mH} {post : Option Value → mH → Prop} (hd : 1 ≤ d) (hM : ModelC h G M v a) (hi : vp_in (v 4) 64)
    (hp : ∀ h', ModelC h' G M (upd (upd (upd v 4 (v 4 + 1)) 16 (v 16 + (if k = 0 then 2 else if k = 2 then -2 else 0))) 17 (v 17 + (if k = 1 then 1 else 0))) (aset (aset a 4 (upd (a 4) (v 4).toNatClampNeg k)) 5 (upd (a 5) (v 4).toNatClampNeg p)) → mKeep h h' M (M + 17) → post none h') : MC G MX7_comes d 0 0 [.ref M, .int k, .int p] h N post := by
  have h0 := hM.1
  refine MC.of (L0 := [some (.ref M), some (.int k), some (.int p)]) gd_X7_comes (Nat.le_of_ble_eq_true rfl) rfl (MW.run gd_X7_comes [] 40 ?_)
  simp (disch := omega) only [↓EVi, ↓EVc, ↓ft_X7_comes, ↓reduceIte, ↓EV_ob h0, mdF, mRun, List.not_mem_nil, mtab_eq, Nat.reduceEqDiff]
  refine ⟨hd, by decide, m_put hM hi (fun h1 hM1 hk1 => ?_)⟩
  have h10 := hM1.1
  simp (disch := omega) only [↓EVi, ↓EVc, ↓ft_X7_comes, ↓reduceIte, ↓EV_ob h10, mdF, mRun, List.not_mem_nil, mtab_eq, Nat.reduceEqDiff]
  refine ⟨trivial, hd, by decide, m_adds ?_⟩
  simp (disch := omega) only [↓EVi, ↓EVc, ↓ft_X7_comes, ↓reduceIte, ↓EV_obs, ↓EV_ob h10, mdF, mRun, List.not_mem_nil, mtab_eq, Nat.reduceEqDiff]
  have fin : ∀ y : Int32, y = (if k = 1 then 1 else 0) → ∀ h', h' = mset (mset h1 M (.inr (7, mdF M (upd (upd v 4 (v 4 + 1)) 16 (v 16 + (if k = 0 then 2 else if k = 2 then -2 else 0)))))) M (.inr (7, mdF M (upd (upd (upd v 4 (v 4 + 1)) 16 (v 16 + (if k = 0 then 2 else if k = 2 then -2 else 0))) 17 (v 17 + y)))) → post none h' := by
    intro y hy h' hh
    subst hy
    subst hh
    refine hp _ (ModelC_v (ModelC_v hM1)) (fun q hq => ?_)
    simp (disch := omega) only [mset_ne]
    exact hk1 q hq
  refine ⟨Nat.le_of_ble_eq_true rfl, trivial, fun c => ⟨Nat.le_of_ble_eq_true rfl, trivial, Nat.le_refl _, fin 0 (by rw [if_neg c]) _ rfl⟩, fun c => ⟨Nat.le_of_ble_eq_true rfl, trivial, Nat.le_refl _, fin 1 (by rw [if_pos (Classical.not_not.mp c)]) _ rfl⟩⟩
