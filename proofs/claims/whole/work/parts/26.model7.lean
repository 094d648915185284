/-! the model: putOf, a loop -/
set_option maxRecDepth 10000 in
theorem l_putOf {G : mG} {d N M : Nat} {f to from0 : Nat} {post : Option Value → mH → Prop} (hd : 1 ≤ d) (hf : f < 8) (ht : to ≤ 30) :
    ∀ (n i : Nat) (v : Nat → Int32) (a : Nat → Nat → Int32) (h : mH) (w : Nat), to - i = n → i ≤ to → v 4 = nI w → w + n ≤ 64 → ModelC h G M v a →
      (∀ h' v' a', ModelC h' G M v' a' → v' = upd v 4 (nI (w + n)) → (∀ k, k ≠ 4 → k ≠ 5 → a' k = a k) → (∀ j, j < w ∨ w + n ≤ j → a' 4 j = a 4 j ∧ a' 5 j = a 5 j) → (∀ j, j < n → a' 4 (w + j) = a 2 (30 * f + (i + j)) ∧ a' 5 (w + j) = a 3 (30 * f + (i + j))) → mKeep h h' M (M + 17) → post none h') →
      MW G MX7_putOf (mz G d 0 0 post) 3 [some (.ref M), some (.int (nI f)), some (.int (nI from0)), some (.int (nI to)), some (.int (nI i))] [] h (N, 0, 0) := by
  intro n
  induction n with
  | zero =>
    intro i v a h w hn hi hw hb hM hp
    have h0 := hM.1
    have a2 : h (M + 2) = some (.inl (gC G 0, 240, .inl (a 2))) := hM.2 2 (by decide) (by decide)
    have a3 : h (M + 3) = some (.inl (gC G 0, 240, .inl (a 3))) := hM.2 3 (by decide) (by decide)
    refine MW.run gd_X7_putOf [] 23 ?_
    simp (disch := omega) only [↓EVi, ↓EVc, ↓ft_X7_putOf, ↓reduceIte, ↓EV_ob h0, ↓EV_ai a2, ↓EV_ai a3, mdF, mRun, List.not_mem_nil, mtab_eq, Nat.reduceEqDiff]
    have e : i = to := by omega
    subst e
    refine ⟨fun _ => ⟨trivial, Nat.le_refl _, hp h v a hM (funext fun j => ?_) (fun _ _ _ => rfl) (fun _ _ => ⟨rfl, rfl⟩) (fun j hj => absurd hj (by omega)) mKeep_rfl⟩, fun c => absurd ((nI_leI (by omega) (by omega)).mpr (Nat.le_refl i)) c⟩
    by_cases c : j = 4
    · subst c
      rw [pk_us]
      exact hw
    · rw [pk_un c]
  | succ n ih =>
    intro i v a h w hn hi hw hb hM hp
    have h0 := hM.1
    have a2 : h (M + 2) = some (.inl (gC G 0, 240, .inl (a 2))) := hM.2 2 (by decide) (by decide)
    have a3 : h (M + 3) = some (.inl (gC G 0, 240, .inl (a 3))) := hM.2 3 (by decide) (by decide)
    refine MW.run gd_X7_putOf [] 23 ?_
    simp (disch := omega) only [↓EVi, ↓EVc, ↓ft_X7_putOf, ↓reduceIte, ↓EV_ob h0, ↓EV_ai a2, ↓EV_ai a3, mdF, mRun, List.not_mem_nil, mtab_eq, Nat.reduceEqDiff]
    have ei : 30 * nI f + nI i = nI (30 * f + i) := by
      rw [show (30 : Int32) = nI 30 from rfl, pk_mul, nI_add]
    rw [ei, nI_clamp (n := 30 * f + i) (by omega)]
    have vi : vp_in (nI (30 * f + i)) 240 := vp_in_nI (by omega) (by omega)
    refine ⟨fun c => absurd ((nI_leI (by omega) (by omega)).mp c) (by omega), fun _ => ⟨vi, vi, hd, by decide, m_put hM (by rw [hw]; exact vp_in_nI (by omega) (by omega)) (fun h1 hM1 hk1 => ?_)⟩⟩
    simp (disch := omega) only [↓EVi, ↓EVc, ↓ft_X7_putOf, ↓reduceIte, mRun, List.not_mem_nil, mtab_eq, Nat.reduceEqDiff, Nat.zero_add]
    rw [nI_1]
    have hcw : (v 4).toNatClampNeg = w := by rw [hw]; exact nI_clamp (by omega)
    rw [hcw] at hM1
    refine ⟨trivial, ih (i + 1) _ _ h1 (w + 1) (by omega) (by omega) (by rw [pk_us, hw, nI_1]) (by omega) hM1 (fun h2 v2 a2' hM2 ev2 k1 k2 k3 hk2 => ?_)⟩
    have q4 : aset (aset a 4 (upd (a 4) w (a 2 (30 * f + i)))) 5 (upd (a 5) w (a 3 (30 * f + i))) 4 = upd (a 4) w (a 2 (30 * f + i)) := rfl
    have q5 : aset (aset a 4 (upd (a 4) w (a 2 (30 * f + i)))) 5 (upd (a 5) w (a 3 (30 * f + i))) 5 = upd (a 5) w (a 3 (30 * f + i)) := rfl
    have q2 : aset (aset a 4 (upd (a 4) w (a 2 (30 * f + i)))) 5 (upd (a 5) w (a 3 (30 * f + i))) 2 = a 2 := rfl
    have q3 : aset (aset a 4 (upd (a 4) w (a 2 (30 * f + i)))) 5 (upd (a 5) w (a 3 (30 * f + i))) 3 = a 3 := rfl
    rw [q4, q5] at k2
    rw [q2, q3] at k3
    refine hp h2 v2 a2' hM2 ?_ (fun k z4 z5 => ?_) (fun j hj => ?_) (fun j hj => ?_) (mKeep_trans hk1 hk2)
    · rw [ev2]
      funext j
      by_cases c : j = 4
      · subst c
        rw [pk_us, pk_us]
        congr 1
        omega
      · rw [pk_un c, pk_un c, pk_un c]
    · rw [k1 k z4 z5]
      unfold aset
      rw [if_neg z5, if_neg z4]
    · obtain ⟨r1, r2⟩ := k2 j (by omega)
      rw [r1, r2, pk_un (by omega), pk_un (by omega)]
      exact ⟨rfl, rfl⟩
    · by_cases c : j = 0
      · subst c
        obtain ⟨r1, r2⟩ := k2 w (by omega)
        rw [Nat.add_zero, r1, r2, pk_us, pk_us]
        exact ⟨rfl, rfl⟩
      · obtain ⟨r1, r2⟩ := k3 (j - 1) (by omega)
        rw [show w + 1 + (j - 1) = w + j by omega, show i + 1 + (j - 1) = i + j by omega] at r1 r2
        exact ⟨r1, r2⟩
theorem m_putOf {G : mG} {d N M f from0 to w : Nat} {v : Nat → Int32} {a : Nat → Nat → Int32} {h : mH} {post : Option Value → mH → Prop} (hd : 1 ≤ d) (hf : f < 8) (ht : to ≤ 30) (hft : from0 ≤ to) (hw : v 4 = nI w) (hb : w + (to - from0) ≤ 64) (hM : ModelC h G M v a)
    (hp : ∀ h' v' a', ModelC h' G M v' a' → v' = upd v 4 (nI (w + (to - from0))) → (∀ k, k ≠ 4 → k ≠ 5 → a' k = a k) → (∀ j, j < w ∨ w + (to - from0) ≤ j → a' 4 j = a 4 j ∧ a' 5 j = a 5 j) → (∀ j, j < to - from0 → a' 4 (w + j) = a 2 (30 * f + (from0 + j)) ∧ a' 5 (w + j) = a 3 (30 * f + (from0 + j))) → mKeep h h' M (M + 17) → post none h') :
    MC G MX7_putOf d 0 0 [.ref M, .int (nI f), .int (nI from0), .int (nI to)] h N post := by
  refine MC.of (L0 := [some (.ref M), some (.int (nI f)), some (.int (nI from0)), some (.int (nI to)), none]) gd_X7_putOf (Nat.le_of_ble_eq_true rfl) rfl (MW.run gd_X7_putOf [3] 3 ?_)
  simp only [↓EVi, ↓EVc, ↓ft_X7_putOf, ↓reduceIte, mRun, List.mem_cons, List.not_mem_nil, or_false, Nat.reduceEqDiff, Nat.zero_add]
  exact ⟨trivial, l_putOf hd hf ht (to - from0) from0 v a h w rfl hft hw hb hM hp⟩
