/-! the law's loop, its start -/
section LOP
variable {G : mG} {b Ln : Nat} {xs : Nat → Int32} {B : Nat}
set_option maxRecDepth 10000 in
theorem L_loop (hLn : Ln ≤ 2560) {al : mAl} (a1 : al.2.1 ≤ 600000) (a2 : al.2.2 ≤ 7302250) {h : mH} {S : AS} (hL : LI h G B S) : MW G ML_law (ZL b Ln xs (gB G)) 18 (LL b B 0) [] h al := by
  refine MW.rept (fun n L h => ∃ i S, L = LL b B i ∧ i ≤ Ln ∧ Ln - i = n ∧ LI h G B S) ?_ Ln _ _ ⟨0, S, rfl, Nat.zero_le _, rfl, hL⟩
  rintro n L h ⟨i, S, rfl, hi, hn, hL⟩ ih
  refine lawS ft_L_law_0.2.2.2.2.2.2.2.2.2.2.1 (lawS ft_L_law_0.2.2.2.2.2.2.2.2.2.2.2.1 ?_)
  show MW G ML_law (ZL b Ln xs (gB G)) 20 (LL b B i) (.ref b :: .int (nI i) :: []) h al
  refine L_len (L_dec ft_L_law_0.2.2.2.2.2.2.2.2.2.2.2.2.1) (lawS ft_L_law_0.2.2.2.2.2.2.2.2.2.2.2.2.2.1 (lawS ft_L_law_0.2.2.2.2.2.2.2.2.2.2.2.2.2.2.1 (lawS ft_L_law_0.2.2.2.2.2.2.2.2.2.2.2.2.2.2.2.1 ?_)))
  show (nI Ln - 5 < nI i → MW G ML_law (ZL b Ln xs (gB G)) 1012 (LL b B i) [] h al) ∧ (¬ nI Ln - 5 < nI i → MW G ML_law (ZL b Ln xs (gB G)) 26 (LL b B i) [] h al)
  refine ⟨fun _ => ?_, fun c => ?_⟩
  · refine lawS ft_L_law_18.2.2.2.2.2.2.2.2.2.2.2.2.2.2.2.2.1 (lawS ft_L_law_18.2.2.2.2.2.2.2.2.2.2.2.2.2.2.2.2.2 ?_)
    show (((1 : Int32) = 0 ∨ (1 : Int32) = 1) ∧ retL (some (.int 1)) h al)
    exact ⟨Or.inr rfl, rfl, a1, a2⟩
  · have h5 : i + 5 ≤ Ln := by
      apply Classical.byContradiction
      intro z
      apply c
      simp (disch := omega) only [z_nI, z_lit, z_neg, z_add, z_sub, z_mul, z_lt, z_le, z_eq, z_in, z_cl]
      omega
    refine lawS ft_L_law_0.2.2.2.2.2.2.2.2.2.2.2.2.2.2.2.2.1 (lawS ft_L_law_0.2.2.2.2.2.2.2.2.2.2.2.2.2.2.2.2.2.1 ?_)
    show MW G ML_law (ZL b Ln xs (gB G)) 28 (LL b B i) (.int (nI i) :: .ref b :: []) h al
    refine L_ald (L_dec ft_L_law_0.2.2.2.2.2.2.2.2.2.2.2.2.2.2.2.2.2.2.1) (vp_in_nI (by omega) (by omega)) (lawS ft_L_law_0.2.2.2.2.2.2.2.2.2.2.2.2.2.2.2.2.2.2.2.1 (lawS ft_L_law_0.2.2.2.2.2.2.2.2.2.2.2.2.2.2.2.2.2.2.2.2.1 ?_))
    obtain ⟨q, hq, e⟩ := pk_andE (xs (nI i).toNatClampNeg) (m := 31) 5 (by decide)
    have hq' : q < 32 := hq
    show MW G ML_law (ZL b Ln xs (gB G)) 32 (LL b B i) [.int (xs (nI i).toNatClampNeg &&& 31)] h al
    rw [e]
    refine L_turn hLn (by omega) hL (fun h' S' hL' => ?_) hq'
    refine lawS ft_L_law_18.2.2.2.2.2.2.2.2.2.2.2.2.2.2.1 (?_ : mOk1 (LL b B i) 3 ∧ MW G ML_law (ZL b Ln xs (gB G)) 1009 [some (.ref b), some (.ref B), some (.ref (B + 137)), some (.int (nI i + 5))] [] h' al)
    refine ⟨rfl, lawS ft_L_law_18.2.2.2.2.2.2.2.2.2.2.2.2.2.2.2.1 ?_⟩
    show MW G ML_law (ZL b Ln xs (gB G)) 18 [some (.ref b), some (.ref B), some (.ref (B + 137)), some (.int (nI i + 5))] [] h' al
    refine ih (Ln - (i + 5)) _ h' (by omega) ⟨i + 5, S', ?_, by omega, rfl, hL'⟩
    show [some (.ref b), some (.ref B), some (.ref (B + 137)), some (.int (nI i + 5))] = LL b B (i + 5)
    rw [show nI i + 5 = nI (i + 5) from nI_add i 5]
set_option maxRecDepth 10000 in
theorem L_begin (hLn : Ln ≤ 2560) (hB : gB G = B) {h : mH} : MW G ML_law (ZL b Ln xs (gB G)) 0 [some (.ref b), none, none, none] [] h (B, 0, 0) := by
  refine MW.new (ci := 6) (fs := [.null, .null, .null, .null, .null, .null, .null, .int 0, .int 0]) (L_dec ft_L_law_0.1) rfl nwX.2.2.2.2.2.2.1 nwW.2.2.2.2.2.2.1.1 nwW.2.2.2.2.2.2.1.2 nd6 (by show 0 + 1 ≤ 600000; decide) (by show 0 + 9 ≤ 7302250; decide) ?_
  refine lawS ft_L_law_0.2.1 (?_ : (Value.ref B).category = 1 ∧ MW G ML_law (ZL b Ln xs (gB G)) 4 [some (.ref b), none, none, none] [.ref B, .ref B] (mset h B (.inr (6, [.null, .null, .null, .null, .null, .null, .null, .int 0, .int 0]))) (B + 1, 0 + 1, 0 + 9))
  refine ⟨rfl, lawS ft_L_law_0.2.2.1 ?_⟩
  show 1 ≤ 1000 ∧ mstW [.ref B] ≤ 8 ∧ 1 + 136 ≤ 600000 ∧ 9 + 2500 ≤ 7302250 ∧ MC G (mtab 76) (1000 - 1) 136 2500 [.ref B] (mset h B (.inr (6, [.null, .null, .null, .null, .null, .null, .null, .int 0, .int 0]))) (B + 1) _
  refine ⟨by decide, Nat.le_of_ble_eq_true rfl, by decide, by decide, ?_⟩
  refine X_init (by decide) mset_same (fun h1 hX1 hk1 => ?_)
  refine lawS ft_L_law_0.2.2.2.1 ?_
  show mOk1 [some (.ref b), none, none, none] 1 ∧ MW G ML_law (ZL b Ln xs (gB G)) 8 [some (.ref b), some (.ref B), none, none] [] h1 (B + 1 + 136, 0 + 1 + 136, 0 + 9 + 2500)
  refine ⟨rfl, ?_⟩
  refine MW.new (ci := 7) (fs := [.int 0, .null, .null, .null, .int 0, .null, .null, .null, .int 0, .int 0, .int 0, .int 0, .int 0, .int 0, .int 0, .int 0, .int 0, .int 0, .null, .null, .null, .null, .null, .null, .int 0, .null, .null, .null, .null, .null]) (L_dec ft_L_law_0.2.2.2.2.1) rfl nwX.2.2.2.2.2.2.2 nwW.2.2.2.2.2.2.2.1 nwW.2.2.2.2.2.2.2.2 nd7 (by show 0 + 1 + 136 + 1 ≤ 600000; decide) (by show 0 + 9 + 2500 + 30 ≤ 7302250; decide) ?_
  refine lawS ft_L_law_0.2.2.2.2.2.1 (?_ : (Value.ref (B + 137)).category = 1 ∧ MW G ML_law (ZL b Ln xs (gB G)) 12 [some (.ref b), some (.ref B), none, none] [.ref (B + 137), .ref (B + 137)] (mset h1 (B + 137) (.inr (7, [.int 0, .null, .null, .null, .int 0, .null, .null, .null, .int 0, .int 0, .int 0, .int 0, .int 0, .int 0, .int 0, .int 0, .int 0, .int 0, .null, .null, .null, .null, .null, .null, .int 0, .null, .null, .null, .null, .null]))) (B + 138, 138, 2539))
  refine ⟨rfl, lawS ft_L_law_0.2.2.2.2.2.2.1 ?_⟩
  show 1 ≤ 1000 ∧ mstW [.ref (B + 137)] ≤ 8 ∧ 138 + 17 ≤ 600000 ∧ 2539 + 2100 ≤ 7302250 ∧ MC G (mtab 111) (1000 - 1) 17 2100 [.ref (B + 137)] (mset h1 (B + 137) (.inr (7, [.int 0, .null, .null, .null, .int 0, .null, .null, .null, .int 0, .int 0, .int 0, .int 0, .int 0, .int 0, .int 0, .int 0, .int 0, .int 0, .null, .null, .null, .null, .null, .null, .int 0, .null, .null, .null, .null, .null]))) (B + 138) _
  refine ⟨by decide, Nat.le_of_ble_eq_true rfl, by decide, by decide, ?_⟩
  refine c_Model_init (M := B + 137) (by decide) mset_same (fun h2 hM2 hk2 => ?_)
  refine lawS ft_L_law_0.2.2.2.2.2.2.2.1 ?_
  show mOk1 [some (.ref b), some (.ref B), none, none] 2 ∧ MW G ML_law (ZL b Ln xs (gB G)) 16 [some (.ref b), some (.ref B), some (.ref (B + 137)), none] [] h2 (B + 138 + 17, 138 + 17, 2539 + 2100)
  refine ⟨rfl, lawS ft_L_law_0.2.2.2.2.2.2.2.2.1 (lawS ft_L_law_0.2.2.2.2.2.2.2.2.2.1 ?_)⟩
  show mOk1 [some (.ref b), some (.ref B), some (.ref (B + 137)), none] 3 ∧ MW G ML_law (ZL b Ln xs (gB G)) 18 (LL b B 0) [] h2 (B + 138 + 17, 138 + 17, 2539 + 2100)
  have hI0 : SInv AS0 := ⟨by decide, fun f hf => absurd hf (Nat.not_lt_zero f), by decide, fun i hi => absurd hi (Nat.not_lt_zero i), by decide, fun k hk => ⟨Or.inl rfl, Nat.zero_le 62⟩⟩
  refine ⟨rfl, L_loop hLn (Nat.le_of_ble_eq_true rfl) (Nat.le_of_ble_eq_true rfl) (S := AS0) ⟨hI0, XR_eq hI0 (fun q a b => ?_) hX1, hM2⟩⟩
  rw [hk2 q (by omega), mset_ne (by omega)]
end LOP
