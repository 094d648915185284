/-! the model: rows -/
def aset (a : Nat → Nat → Int32) (k : Nat) (f : Nat → Int32) : Nat → Nat → Int32 := fun j => if j = k then f else a j
theorem ModelC_a {h : mH} {G : mG} {M k : Nat} {v : Nat → Int32} {a : Nat → Nat → Int32} {f : Nat → Int32} (hM : ModelC h G M v a) (h1 : 1 ≤ k) (h2 : k ≤ 17) : ModelC (mset h (M + k) (.inl (gC G (if k = 17 then 2 else 0), mdLen k, .inl f))) G M v (aset a k f) := by
  refine ⟨?_, fun j g1 g2 => ?_⟩
  · rw [mset_ne (by omega)]
    exact hM.1
  · by_cases c : j = k
    · subst c
      rw [mset_same]
      unfold aset
      rw [if_pos rfl]
    · rw [mset_ne (by omega)]
      unfold aset
      rw [if_neg c]
      exact hM.2 j g1 g2
set_option maxRecDepth 10000 in
theorem m_put {G : mG} {d N M : Nat} {v : Nat → Int32} {a : Nat → Nat → Int32} {k p : Int32} {h : mH} {post : Option Value → mH → Prop} (hM : ModelC h G M v a) (hi : vp_in (v 4) 64)
    (hp : ∀ h', ModelC h' G M (upd v 4 (v 4 + 1)) (aset (aset a 4 (upd (a 4) (v 4).toNatClampNeg k)) 5 (upd (a 5) (v 4).toNatClampNeg p)) → mKeep h h' M (M + 17) → post none h') : MC G MX7_put d 0 0 [.ref M, .int k, .int p] h N post := by
  have h0 := hM.1
  have a4 : h (M + 4) = some (.inl (gC G 0, 64, .inl (a 4))) := hM.2 4 (by decide) (by decide)
  have a5 : h (M + 5) = some (.inl (gC G 0, 64, .inl (a 5))) := hM.2 5 (by decide) (by decide)
  refine MC.of (L0 := [some (.ref M), some (.int k), some (.int p)]) gd_X7_put (Nat.le_of_ble_eq_true rfl) rfl (MW.run gd_X7_put [] 30 ?_)
  simp (disch := omega) only [↓EVi, ↓EVc, ↓ft_X7_put, ↓reduceIte, ↓EV_obs, ↓EV_obn, ↓EV_ais, ↓EV_ain, ↓EV_ob h0, ↓EV_ai a4, ↓EV_ai a5, mdF, mRun, List.not_mem_nil, mtab_eq, Nat.reduceEqDiff]
  refine ⟨hi, hi, trivial, Nat.le_of_ble_eq_true rfl, trivial, Nat.le_refl _, hp _ (ModelC_v (v' := upd v 4 (v 4 + 1)) (ModelC_a (k := 5) (ModelC_a (k := 4) hM (by decide) (by decide)) (by decide) (by decide))) (fun q hq => ?_)⟩
  simp (disch := omega) only [mset_ne]
set_option maxRecDepth 10000 in
theorem m_kindAt {G : mG} {d N M : Nat} {v : Nat → Int32} {a : Nat → Nat → Int32} {f i : Int32} {h : mH} {post : Option Value → mH → Prop} (hM : ModelC h G M v a) (hf : vp_in f 8) (hi : ¬ a 1 f.toNatClampNeg ≤ i → vp_in (30 * f + i) 240)
    (hp : post (some (.int (if a 1 f.toNatClampNeg ≤ i then -4 else a 2 (30 * f + i).toNatClampNeg))) h) : MC G MX7_kindAt d 0 0 [.ref M, .int f, .int i] h N post := by
  have h0 := hM.1
  have a1 : h (M + 1) = some (.inl (gC G 0, 8, .inl (a 1))) := hM.2 1 (by decide) (by decide)
  have a2 : h (M + 2) = some (.inl (gC G 0, 240, .inl (a 2))) := hM.2 2 (by decide) (by decide)
  refine MC.of (L0 := [some (.ref M), some (.int f), some (.int i)]) gd_X7_kindAt (Nat.le_of_ble_eq_true rfl) rfl (MW.run gd_X7_kindAt [] 30 ?_)
  simp (disch := omega) only [↓EVi, ↓EVc, ↓ft_X7_kindAt, ↓reduceIte, ↓EV_ob h0, ↓EV_ai a1, ↓EV_ai a2, mdF, mRun, List.not_mem_nil, mtab_eq, Nat.reduceEqDiff]
  by_cases c : a 1 f.toNatClampNeg ≤ i
  · rw [if_pos c] at hp
    exact ⟨hf, fun _ => ⟨trivial, Nat.le_refl _, hp⟩, fun z => absurd c z⟩
  · rw [if_neg c] at hp
    exact ⟨hf, fun z => absurd z c, fun _ => ⟨hi c, trivial, Nat.le_refl _, hp⟩⟩
set_option maxRecDepth 10000 in
theorem m_numberAt {G : mG} {d N M : Nat} {v : Nat → Int32} {a : Nat → Nat → Int32} {f i : Int32} {h : mH} {post : Option Value → mH → Prop} (hM : ModelC h G M v a) (hf : vp_in f 8) (hi : ¬ a 1 f.toNatClampNeg ≤ i → vp_in (30 * f + i) 240)
    (hp : post (some (.int (if a 1 f.toNatClampNeg ≤ i then -4 else a 3 (30 * f + i).toNatClampNeg))) h) : MC G MX7_numberAt d 0 0 [.ref M, .int f, .int i] h N post := by
  have h0 := hM.1
  have a1 : h (M + 1) = some (.inl (gC G 0, 8, .inl (a 1))) := hM.2 1 (by decide) (by decide)
  have a3 : h (M + 3) = some (.inl (gC G 0, 240, .inl (a 3))) := hM.2 3 (by decide) (by decide)
  refine MC.of (L0 := [some (.ref M), some (.int f), some (.int i)]) gd_X7_numberAt (Nat.le_of_ble_eq_true rfl) rfl (MW.run gd_X7_numberAt [] 30 ?_)
  simp (disch := omega) only [↓EVi, ↓EVc, ↓ft_X7_numberAt, ↓reduceIte, ↓EV_ob h0, ↓EV_ai a1, ↓EV_ai a3, mdF, mRun, List.not_mem_nil, mtab_eq, Nat.reduceEqDiff]
  by_cases c : a 1 f.toNatClampNeg ≤ i
  · rw [if_pos c] at hp
    exact ⟨hf, fun _ => ⟨trivial, Nat.le_refl _, hp⟩, fun z => absurd c z⟩
  · rw [if_neg c] at hp
    exact ⟨hf, fun z => absurd z c, fun _ => ⟨hi c, trivial, Nat.le_refl _, hp⟩⟩
