/-! Front: become -/
set_option maxRecDepth 10000 in
theorem c_become {G : mG} {d N F F2 : Nat} {fs : List Ev} {K P A : Nat → Int32} {n x : Int32} {h : mH} {post : Option Value → mH → Prop} (hd : 1 ≤ d) (hFF : F2 + 3 < F ∨ F + 3 < F2) (hF : FrontC h G F K P A n x) (hF2 : FrontR h G F2 fs)
    (hp : ∀ h', FrontR h' G F fs → mKeep h h' F (F + 3) → post none h') : MC G MX0_become d 0 0 [.ref F, .ref F2] h N post := by
  obtain ⟨h0, h1, h2, h3⟩ := hF
  obtain ⟨hv2, K2, P2, A2, ⟨g0, g1, g2, g3⟩, hKP2, hA2⟩ := hF2
  refine MC.of (L0 := [some (.ref F), some (.ref F2)]) gd_X0_become (Nat.le_of_ble_eq_true rfl) rfl (MW.run gd_X0_become [] 60 ?_)
  simp (disch := omega) only [↓EVi, ↓EVc, ↓ft_X0_become, ↓reduceIte, ↓EV_obs, ↓EV_ais, ↓EV_obn, ↓EV_ain, ↓EV_ob h0, ↓EV_ai h1, ↓EV_ai h2, ↓EV_ai h3, ↓EV_ob g0, ↓EV_ai g1, ↓EV_ai g2, ↓EV_ai g3, mRun, List.not_mem_nil, mtab_eq, Nat.reduceEqDiff]
  have b30 := (vld_bd hv2).1
  have z0 : (Int32.toNatClampNeg 0) = 0 := rfl
  have z30 : (Int32.toNatClampNeg 30) = 30 := rfl
  have z31 : (Int32.toNatClampNeg 31) = 31 := rfl
  simp only [z0, z30, z31, Nat.zero_add, Nat.le_refl, hd, true_and]
  refine ⟨by decide, by decide, by decide, by decide, by decide, by decide, by decide, by decide, by decide, by decide, by decide, by decide, Nat.le_of_ble_eq_true rfl, Nat.le_of_ble_eq_true rfl, hp _ ⟨hv2, va_cpy K2 K 0 0 30, va_cpy P2 P 0 0 30, va_cpy A2 A 0 0 31, ?_, fun i hi => ?_, fun i hi => ?_⟩ ?_⟩
  · simp (disch := omega) only [FrontC, mset_same, mset_ne, and_self]
  · rw [pk_cpy_in (by omega) (by omega), pk_cpy_in (by omega) (by omega)]
    simpa using hKP2 i hi
  · rw [pk_cpy_in (by omega) (by omega)]
    simpa using hA2 i hi
  · intro q hq
    simp (disch := omega) only [mset_ne]
