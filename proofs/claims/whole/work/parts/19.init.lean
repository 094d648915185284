/-! constructors -/
set_option maxRecDepth 100000 in
theorem arrW : Cond.arrayClass .int ∈ lw_tbl ∧ Cond.arrayClass .byte ∈ lw_tbl ∧ Cond.arrayClass .boolean ∈ lw_tbl := by decide +kernel
theorem MW.newi {G : mG} {M : mI} {Z : mZ} {pc : Nat} {n : Int32} {K : Nat} {L : mL} {r : List Value} {h : mH} {al : mAl} (hd : decode (mCd M) pc = .ok (.newarray .int, 2)) (hn : ¬ n < 0) (hK0 : n.toNatClampNeg = K) (hby : K ≤ 1000) (hc : al.2.1 + 1 ≤ Z.1.cells) (hs : al.2.2 + K ≤ Z.1.slots)
    (k : MW G M Z (pc + 2) L (.ref al.1 :: r) (mset h al.1 (.inl (gC G 0, K, .inl (fun _ => 0)))) (al.1 + 1, al.2.1 + 1, al.2.2 + K)) : MW G M Z pc L (.int n :: r) h al :=
  MW.newa (t := 0) hd rfl rfl rfl (fun _ _ q => q) arrW.1 hn hK0 (by show K * 4 ≤ 536870912; omega) hc hs k
set_option maxRecDepth 10000 in
theorem c_Front_init {G : mG} {d F : Nat} {h : mH} {post : Option Value → mH → Prop} (hd : 1 ≤ d) (h0 : h F = some (.inr (0, [.null, .null, .null, .int 0, .int 0])))
    (hp : ∀ h', FrontC h' G F (fun _ => 0) (fun _ => 0) (fun _ => 0) 0 0 → mKeep h h' F (F + 3) → post none h') : MC G MX0_init d 3 91 [.ref F] h (F + 1) post := by
  refine MC.of (L0 := [some (.ref F)]) gd_X0_init (Nat.le_of_ble_eq_true rfl) rfl (MW.run gd_X0_init [7, 15, 23] 40 ?_)
  simp (disch := omega) only [↓EVi, ↓EVc, ↓ft_X0_init, ↓reduceIte, ↓EV_obs, ↓EV_obn, ↓EV_ob h0, mRun, List.mem_cons, List.not_mem_nil, or_false, mtab_eq, Nat.reduceEqDiff, or_self, or_true, true_or]
  refine ⟨hd, by decide, MW.newi (K := 30) (MW.dec gd_X0_init (pc := 7) rfl) (by decide) rfl (by decide) (by show 0 + 1 ≤ 3; decide) (by show 0 + 30 ≤ 91; decide) (MW.run gd_X0_init [7, 15, 23] 40 ?_)⟩
  simp (disch := omega) only [↓EVi, ↓EVc, ↓ft_X0_init, ↓reduceIte, ↓EV_obs, ↓EV_obn, ↓EV_ob h0, mRun, List.mem_cons, List.not_mem_nil, or_false, mtab_eq, Nat.reduceEqDiff, or_self, or_true, true_or, Nat.reduceAdd, Nat.zero_add, Nat.add_assoc]
  refine ⟨Nat.le_of_ble_eq_true rfl, MW.newi (K := 30) (MW.dec gd_X0_init (pc := 15) rfl) (by decide) rfl (by decide) (by show 1 + 1 ≤ 3; decide) (by show 30 + 30 ≤ 91; decide) (MW.run gd_X0_init [7, 15, 23] 40 ?_)⟩
  simp (disch := omega) only [↓EVi, ↓EVc, ↓ft_X0_init, ↓reduceIte, ↓EV_obs, ↓EV_obn, ↓EV_ob h0, mRun, List.mem_cons, List.not_mem_nil, or_false, mtab_eq, Nat.reduceEqDiff, or_self, or_true, true_or, Nat.reduceAdd, Nat.zero_add, Nat.add_assoc]
  refine ⟨Nat.le_of_ble_eq_true rfl, MW.newi (K := 31) (MW.dec gd_X0_init (pc := 23) rfl) (by decide) rfl (by decide) (by show 2 + 1 ≤ 3; decide) (by show 60 + 31 ≤ 91; decide) (MW.run gd_X0_init [7, 15, 23] 40 ?_)⟩
  simp (disch := omega) only [↓EVi, ↓EVc, ↓ft_X0_init, ↓reduceIte, ↓EV_obs, ↓EV_obn, ↓EV_ob h0, mRun, List.mem_cons, List.not_mem_nil, or_false, mtab_eq, Nat.reduceEqDiff, or_self, or_true, true_or, Nat.reduceAdd, Nat.zero_add, Nat.add_assoc]
  refine ⟨Nat.le_of_ble_eq_true rfl, Nat.le_of_ble_eq_true rfl, Nat.le_of_ble_eq_true rfl, trivial, Nat.le_refl _, hp _ ?_ ?_⟩
  · simp (disch := omega) only [FrontC, mset_same, mset_ne, and_self]
  · intro q hq
    simp (disch := omega) only [mset_ne]
