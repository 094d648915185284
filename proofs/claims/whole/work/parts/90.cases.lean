/-! the law: each call, written by wip/whole/law.py -/
section LCS
variable {G : mG} {b Ln B i : Nat} {xs : Nat → Int32} {h : mH} {al : mAl} {S : AS}
set_option maxRecDepth 10000 in
theorem L_feed (hLn : Ln ≤ 2560) (hi : i + 4 < Ln) (hL : LI h G B S) (nx : ∀ h' S', LI h' G B S' → MW G ML_law (ZL b Ln xs (gB G)) 1006 (LL b B i) [] h' al) : MW G ML_law (ZL b Ln xs (gB G)) 144 (LL b B i) [] h al := by
  obtain ⟨hI, hX, hR⟩ := hL
  refine L_a1 ft_L_law_0.2.2.2.2.2.2.2.2.2.2.2.2.2.2.2.2.2.2.2.2.2.2.1 ?_
  refine L_arg 1 ft_L_law_0.2.2.2.2.2.2.2.2.2.2.2.2.2.2.2.2.2.2.2.2.2.2.2.1 ft_L_law_0.2.2.2.2.2.2.2.2.2.2.2.2.2.2.2.2.2.2.2.2.2.2.2.2.1 ft_L_law_0.2.2.2.2.2.2.2.2.2.2.2.2.2.2.2.2.2.2.2.2.2.2.2.2.2.1 ft_L_law_0.2.2.2.2.2.2.2.2.2.2.2.2.2.2.2.2.2.2.2.2.2.2.2.2.2.2.1 ft_L_law_0.2.2.2.2.2.2.2.2.2.2.2.2.2.2.2.2.2.2.2.2.2.2.2.2.2.2.2.1 rfl (by omega) hLn ?_
  refine lawS ft_L_law_0.2.2.2.2.2.2.2.2.2.2.2.2.2.2.2.2.2.2.2.2.2.2.2.2.2.2.2.2.1 ?_
  refine lawS ft_L_law_0.2.2.2.2.2.2.2.2.2.2.2.2.2.2.2.2.2.2.2.2.2.2.2.2.2.2.2.2.2.1 ?_
  refine lawS ft_L_law_0.2.2.2.2.2.2.2.2.2.2.2.2.2.2.2.2.2.2.2.2.2.2.2.2.2.2.2.2.2.2.1 ?_
  refine L_arg 2 ft_L_law_0.2.2.2.2.2.2.2.2.2.2.2.2.2.2.2.2.2.2.2.2.2.2.2.2.2.2.2.2.2.2.2.1 ft_L_law_0.2.2.2.2.2.2.2.2.2.2.2.2.2.2.2.2.2.2.2.2.2.2.2.2.2.2.2.2.2.2.2.2.1 ft_L_law_0.2.2.2.2.2.2.2.2.2.2.2.2.2.2.2.2.2.2.2.2.2.2.2.2.2.2.2.2.2.2.2.2.2.1 ft_L_law_0.2.2.2.2.2.2.2.2.2.2.2.2.2.2.2.2.2.2.2.2.2.2.2.2.2.2.2.2.2.2.2.2.2.2.1 ft_L_law_0.2.2.2.2.2.2.2.2.2.2.2.2.2.2.2.2.2.2.2.2.2.2.2.2.2.2.2.2.2.2.2.2.2.2.2.1 rfl (by omega) hLn ?_
  refine lawS ft_L_law_0.2.2.2.2.2.2.2.2.2.2.2.2.2.2.2.2.2.2.2.2.2.2.2.2.2.2.2.2.2.2.2.2.2.2.2.2.1 ?_
  refine lawS ft_L_law_0.2.2.2.2.2.2.2.2.2.2.2.2.2.2.2.2.2.2.2.2.2.2.2.2.2.2.2.2.2.2.2.2.2.2.2.2.2.1 ?_
  refine lawS ft_L_law_0.2.2.2.2.2.2.2.2.2.2.2.2.2.2.2.2.2.2.2.2.2.2.2.2.2.2.2.2.2.2.2.2.2.2.2.2.2.2.1 ?_
  refine lawS ft_L_law_0.2.2.2.2.2.2.2.2.2.2.2.2.2.2.2.2.2.2.2.2.2.2.2.2.2.2.2.2.2.2.2.2.2.2.2.2.2.2.2 ?_
  refine L_call ft_L_law_1.1 (by decide) (show mtab 77 = MX6_feed from rfl) rfl hX.1 (Nat.le_of_ble_eq_true rfl) (X_feed (by decide) hI hX (fun h1 hX1 hk1 => ?_))
  have hR1 := MR_eq (eqO_of hk1 (by omega)) hR
  obtain ⟨fs, o1⟩ := MR_o hR1
  refine L_a2 ft_L_law_1.2.1 ?_
  refine L_arg 1 ft_L_law_1.2.2.1 ft_L_law_1.2.2.2.1 ft_L_law_1.2.2.2.2.1 ft_L_law_1.2.2.2.2.2.1 ft_L_law_1.2.2.2.2.2.2.1 rfl (by omega) hLn ?_
  refine lawS ft_L_law_1.2.2.2.2.2.2.2.1 ?_
  refine lawS ft_L_law_1.2.2.2.2.2.2.2.2.1 ?_
  refine lawS ft_L_law_1.2.2.2.2.2.2.2.2.2.1 ?_
  refine L_arg 2 ft_L_law_1.2.2.2.2.2.2.2.2.2.2.1 ft_L_law_1.2.2.2.2.2.2.2.2.2.2.2.1 ft_L_law_1.2.2.2.2.2.2.2.2.2.2.2.2.1 ft_L_law_1.2.2.2.2.2.2.2.2.2.2.2.2.2.1 ft_L_law_1.2.2.2.2.2.2.2.2.2.2.2.2.2.2.1 rfl (by omega) hLn ?_
  refine lawS ft_L_law_1.2.2.2.2.2.2.2.2.2.2.2.2.2.2.2.1 ?_
  refine lawS ft_L_law_1.2.2.2.2.2.2.2.2.2.2.2.2.2.2.2.2.1 ?_
  refine lawS ft_L_law_1.2.2.2.2.2.2.2.2.2.2.2.2.2.2.2.2.2.1 ?_
  refine lawS ft_L_law_1.2.2.2.2.2.2.2.2.2.2.2.2.2.2.2.2.2.2.1 ?_
  refine L_call ft_L_law_1.2.2.2.2.2.2.2.2.2.2.2.2.2.2.2.2.2.2.2.1 (by decide) (show mtab 122 = MX7_feed from rfl) rfl o1 (Nat.le_of_ble_eq_true rfl) (M_feed hI hR1 (fun h2 hR2 hk2 => ?_))
  refine L_eq ft_L_law_1.2.2.2.2.2.2.2.2.2.2.2.2.2.2.2.2.2.2.2.2.1 rfl ?_
  exact nx h2 _ (LI_next (I_feed hI) hX1 hk2 hR2)
set_option maxRecDepth 10000 in
theorem L_end (hLn : Ln ≤ 2560) (hi : i + 4 < Ln) (hL : LI h G B S) (nx : ∀ h' S', LI h' G B S' → MW G ML_law (ZL b Ln xs (gB G)) 1006 (LL b B i) [] h' al) : MW G ML_law (ZL b Ln xs (gB G)) 197 (LL b B i) [] h al := by
  obtain ⟨hI, hX, hR⟩ := hL
  refine L_a1 ft_L_law_1.2.2.2.2.2.2.2.2.2.2.2.2.2.2.2.2.2.2.2.2.2.2.2.1 ?_
  refine L_arg 1 ft_L_law_1.2.2.2.2.2.2.2.2.2.2.2.2.2.2.2.2.2.2.2.2.2.2.2.2.1 ft_L_law_1.2.2.2.2.2.2.2.2.2.2.2.2.2.2.2.2.2.2.2.2.2.2.2.2.2.1 ft_L_law_1.2.2.2.2.2.2.2.2.2.2.2.2.2.2.2.2.2.2.2.2.2.2.2.2.2.2.1 ft_L_law_1.2.2.2.2.2.2.2.2.2.2.2.2.2.2.2.2.2.2.2.2.2.2.2.2.2.2.2.1 ft_L_law_1.2.2.2.2.2.2.2.2.2.2.2.2.2.2.2.2.2.2.2.2.2.2.2.2.2.2.2.2.1 rfl (by omega) hLn ?_
  refine L_call ft_L_law_1.2.2.2.2.2.2.2.2.2.2.2.2.2.2.2.2.2.2.2.2.2.2.2.2.2.2.2.2.2.1 (by decide) (show mtab 78 = MX6_end from rfl) rfl hX.1 (Nat.le_of_ble_eq_true rfl) (X_end hI hX (fun h1 hX1 hk1 => ?_))
  have hR1 := MR_eq (eqO_of hk1 (by omega)) hR
  obtain ⟨fs, o1⟩ := MR_o hR1
  refine L_a2 ft_L_law_1.2.2.2.2.2.2.2.2.2.2.2.2.2.2.2.2.2.2.2.2.2.2.2.2.2.2.2.2.2.2.1 ?_
  refine L_arg 1 ft_L_law_1.2.2.2.2.2.2.2.2.2.2.2.2.2.2.2.2.2.2.2.2.2.2.2.2.2.2.2.2.2.2.2.1 ft_L_law_1.2.2.2.2.2.2.2.2.2.2.2.2.2.2.2.2.2.2.2.2.2.2.2.2.2.2.2.2.2.2.2.2.1 ft_L_law_1.2.2.2.2.2.2.2.2.2.2.2.2.2.2.2.2.2.2.2.2.2.2.2.2.2.2.2.2.2.2.2.2.2.1 ft_L_law_1.2.2.2.2.2.2.2.2.2.2.2.2.2.2.2.2.2.2.2.2.2.2.2.2.2.2.2.2.2.2.2.2.2.2.1 ft_L_law_1.2.2.2.2.2.2.2.2.2.2.2.2.2.2.2.2.2.2.2.2.2.2.2.2.2.2.2.2.2.2.2.2.2.2.2.1 rfl (by omega) hLn ?_
  refine L_call ft_L_law_1.2.2.2.2.2.2.2.2.2.2.2.2.2.2.2.2.2.2.2.2.2.2.2.2.2.2.2.2.2.2.2.2.2.2.2.2.1 (by decide) (show mtab 123 = MX7_end from rfl) rfl o1 (Nat.le_of_ble_eq_true rfl) (M_end (by decide) hI hR1 (fun h2 hR2 hk2 => ?_))
  refine L_eq ft_L_law_1.2.2.2.2.2.2.2.2.2.2.2.2.2.2.2.2.2.2.2.2.2.2.2.2.2.2.2.2.2.2.2.2.2.2.2.2.2.1 rfl ?_
  exact nx h2 _ (LI_next (I_end hI) hX1 hk2 hR2)
set_option maxRecDepth 10000 in
theorem L_front (hLn : Ln ≤ 2560) (hi : i + 4 < Ln) (hL : LI h G B S) (nx : ∀ h' S', LI h' G B S' → MW G ML_law (ZL b Ln xs (gB G)) 1006 (LL b B i) [] h' al) : MW G ML_law (ZL b Ln xs (gB G)) 220 (LL b B i) [] h al := by
  obtain ⟨hI, hX, hR⟩ := hL
  refine L_a1 ft_L_law_2.1 ?_
  refine L_call ft_L_law_2.2.1 (by decide) (show mtab 79 = MX6_front from rfl) rfl hX.1 (Nat.le_of_ble_eq_true rfl) (X_front (by decide) (RL_ok G) hI hX (fun h1 hX1 hk1 => ?_))
  have hR1 := MR_eq (eqO_of hk1 (by omega)) hR
  obtain ⟨fs, o1⟩ := MR_o hR1
  refine L_a2 ft_L_law_2.2.2.1 ?_
  refine L_call ft_L_law_2.2.2.2.1 (by decide) (show mtab 131 = MX7_front from rfl) rfl o1 (Nat.le_of_ble_eq_true rfl) (M_front (by decide) hI hR1 (fun h2 hR2 hk2 => ?_))
  refine L_eq ft_L_law_2.2.2.2.2.1 rfl ?_
  exact nx h2 _ (LI_next (I_front hI) hX1 hk2 hR2)
set_option maxRecDepth 10000 in
theorem L_fault (hLn : Ln ≤ 2560) (hi : i + 4 < Ln) (hL : LI h G B S) (nx : ∀ h' S', LI h' G B S' → MW G ML_law (ZL b Ln xs (gB G)) 1006 (LL b B i) [] h' al) : MW G ML_law (ZL b Ln xs (gB G)) 233 (LL b B i) [] h al := by
  obtain ⟨hI, hX, hR⟩ := hL
  refine L_a1 ft_L_law_2.2.2.2.2.2.2.2.1 ?_
  refine L_call ft_L_law_2.2.2.2.2.2.2.2.2.1 (by decide) (show mtab 80 = MX6_fault from rfl) rfl hX.1 (Nat.le_of_ble_eq_true rfl) (X_fault hX (fun h1 hX1 hk1 => ?_))
  have hR1 := MR_eq (eqO_of hk1 (by omega)) hR
  obtain ⟨fs, o1⟩ := MR_o hR1
  refine L_a2 ft_L_law_2.2.2.2.2.2.2.2.2.2.1 ?_
  refine L_call ft_L_law_2.2.2.2.2.2.2.2.2.2.2.1 (by decide) (show mtab 132 = MX7_fault from rfl) rfl o1 (Nat.le_of_ble_eq_true rfl) (M_fault hR1 (fun h2 hR2 hk2 => ?_))
  refine L_eq ft_L_law_2.2.2.2.2.2.2.2.2.2.2.2.1 rfl ?_
  exact nx h2 _ (LI_next (hI) hX1 hk2 hR2)
set_option maxRecDepth 10000 in
theorem L_sheet (hLn : Ln ≤ 2560) (hi : i + 4 < Ln) (hL : LI h G B S) (nx : ∀ h' S', LI h' G B S' → MW G ML_law (ZL b Ln xs (gB G)) 1006 (LL b B i) [] h' al) : MW G ML_law (ZL b Ln xs (gB G)) 246 (LL b B i) [] h al := by
  obtain ⟨hI, hX, hR⟩ := hL
  refine L_a1 ft_L_law_2.2.2.2.2.2.2.2.2.2.2.2.2.2.2.1 ?_
  refine L_arg 1 ft_L_law_2.2.2.2.2.2.2.2.2.2.2.2.2.2.2.2.1 ft_L_law_2.2.2.2.2.2.2.2.2.2.2.2.2.2.2.2.2.1 ft_L_law_2.2.2.2.2.2.2.2.2.2.2.2.2.2.2.2.2.2.1 ft_L_law_2.2.2.2.2.2.2.2.2.2.2.2.2.2.2.2.2.2.2.1 ft_L_law_2.2.2.2.2.2.2.2.2.2.2.2.2.2.2.2.2.2.2.2.1 rfl (by omega) hLn ?_
  refine L_arg 2 ft_L_law_2.2.2.2.2.2.2.2.2.2.2.2.2.2.2.2.2.2.2.2.2.1 ft_L_law_2.2.2.2.2.2.2.2.2.2.2.2.2.2.2.2.2.2.2.2.2.2.1 ft_L_law_2.2.2.2.2.2.2.2.2.2.2.2.2.2.2.2.2.2.2.2.2.2.2.1 ft_L_law_2.2.2.2.2.2.2.2.2.2.2.2.2.2.2.2.2.2.2.2.2.2.2.2.1 ft_L_law_2.2.2.2.2.2.2.2.2.2.2.2.2.2.2.2.2.2.2.2.2.2.2.2.2.1 rfl (by omega) hLn ?_
  refine L_arg 3 ft_L_law_2.2.2.2.2.2.2.2.2.2.2.2.2.2.2.2.2.2.2.2.2.2.2.2.2.2.1 ft_L_law_2.2.2.2.2.2.2.2.2.2.2.2.2.2.2.2.2.2.2.2.2.2.2.2.2.2.2.1 ft_L_law_2.2.2.2.2.2.2.2.2.2.2.2.2.2.2.2.2.2.2.2.2.2.2.2.2.2.2.2.1 ft_L_law_2.2.2.2.2.2.2.2.2.2.2.2.2.2.2.2.2.2.2.2.2.2.2.2.2.2.2.2.2.1 ft_L_law_2.2.2.2.2.2.2.2.2.2.2.2.2.2.2.2.2.2.2.2.2.2.2.2.2.2.2.2.2.2.1 rfl (by omega) hLn ?_
  refine L_call ft_L_law_2.2.2.2.2.2.2.2.2.2.2.2.2.2.2.2.2.2.2.2.2.2.2.2.2.2.2.2.2.2.2.1 (by decide) (show mtab 81 = MX6_sheet from rfl) rfl hX.1 (Nat.le_of_ble_eq_true rfl) (X_sheet (by decide) hI hX (fun h1 hX1 hk1 => ?_))
  have hR1 := MR_eq (eqO_of hk1 (by omega)) hR
  obtain ⟨fs, o1⟩ := MR_o hR1
  refine L_a2 ft_L_law_2.2.2.2.2.2.2.2.2.2.2.2.2.2.2.2.2.2.2.2.2.2.2.2.2.2.2.2.2.2.2.2.1 ?_
  refine L_arg 1 ft_L_law_2.2.2.2.2.2.2.2.2.2.2.2.2.2.2.2.2.2.2.2.2.2.2.2.2.2.2.2.2.2.2.2.2.1 ft_L_law_2.2.2.2.2.2.2.2.2.2.2.2.2.2.2.2.2.2.2.2.2.2.2.2.2.2.2.2.2.2.2.2.2.2.1 ft_L_law_2.2.2.2.2.2.2.2.2.2.2.2.2.2.2.2.2.2.2.2.2.2.2.2.2.2.2.2.2.2.2.2.2.2.2.1 ft_L_law_2.2.2.2.2.2.2.2.2.2.2.2.2.2.2.2.2.2.2.2.2.2.2.2.2.2.2.2.2.2.2.2.2.2.2.2.1 ft_L_law_2.2.2.2.2.2.2.2.2.2.2.2.2.2.2.2.2.2.2.2.2.2.2.2.2.2.2.2.2.2.2.2.2.2.2.2.2.1 rfl (by omega) hLn ?_
  refine L_arg 2 ft_L_law_2.2.2.2.2.2.2.2.2.2.2.2.2.2.2.2.2.2.2.2.2.2.2.2.2.2.2.2.2.2.2.2.2.2.2.2.2.2.1 ft_L_law_2.2.2.2.2.2.2.2.2.2.2.2.2.2.2.2.2.2.2.2.2.2.2.2.2.2.2.2.2.2.2.2.2.2.2.2.2.2.2.1 ft_L_law_2.2.2.2.2.2.2.2.2.2.2.2.2.2.2.2.2.2.2.2.2.2.2.2.2.2.2.2.2.2.2.2.2.2.2.2.2.2.2.2 ft_L_law_3.1 ft_L_law_3.2.1 rfl (by omega) hLn ?_
  refine L_arg 3 ft_L_law_3.2.2.1 ft_L_law_3.2.2.2.1 ft_L_law_3.2.2.2.2.1 ft_L_law_3.2.2.2.2.2.1 ft_L_law_3.2.2.2.2.2.2.1 rfl (by omega) hLn ?_
  refine L_call ft_L_law_3.2.2.2.2.2.2.2.1 (by decide) (show mtab 133 = MX7_sheet from rfl) rfl o1 (Nat.le_of_ble_eq_true rfl) (M_sheet (by decide) hI hR1 (fun h2 hR2 hk2 => ?_))
  refine L_eq ft_L_law_3.2.2.2.2.2.2.2.2.1 rfl ?_
  exact nx h2 _ (LI_next (I_sheet hI) hX1 hk2 hR2)
set_option maxRecDepth 10000 in
theorem L_lay (hLn : Ln ≤ 2560) (hi : i + 4 < Ln) (hL : LI h G B S) (nx : ∀ h' S', LI h' G B S' → MW G ML_law (ZL b Ln xs (gB G)) 1006 (LL b B i) [] h' al) : MW G ML_law (ZL b Ln xs (gB G)) 289 (LL b B i) [] h al := by
  obtain ⟨hI, hX, hR⟩ := hL
  refine L_a1 ft_L_law_3.2.2.2.2.2.2.2.2.2.2.2.1 ?_
  refine L_arg 1 ft_L_law_3.2.2.2.2.2.2.2.2.2.2.2.2.1 ft_L_law_3.2.2.2.2.2.2.2.2.2.2.2.2.2.1 ft_L_law_3.2.2.2.2.2.2.2.2.2.2.2.2.2.2.1 ft_L_law_3.2.2.2.2.2.2.2.2.2.2.2.2.2.2.2.1 ft_L_law_3.2.2.2.2.2.2.2.2.2.2.2.2.2.2.2.2.1 rfl (by omega) hLn ?_
  refine L_arg 2 ft_L_law_3.2.2.2.2.2.2.2.2.2.2.2.2.2.2.2.2.2.1 ft_L_law_3.2.2.2.2.2.2.2.2.2.2.2.2.2.2.2.2.2.2.1 ft_L_law_3.2.2.2.2.2.2.2.2.2.2.2.2.2.2.2.2.2.2.2.1 ft_L_law_3.2.2.2.2.2.2.2.2.2.2.2.2.2.2.2.2.2.2.2.2.1 ft_L_law_3.2.2.2.2.2.2.2.2.2.2.2.2.2.2.2.2.2.2.2.2.2.1 rfl (by omega) hLn ?_
  refine L_arg 3 ft_L_law_3.2.2.2.2.2.2.2.2.2.2.2.2.2.2.2.2.2.2.2.2.2.2.1 ft_L_law_3.2.2.2.2.2.2.2.2.2.2.2.2.2.2.2.2.2.2.2.2.2.2.2.1 ft_L_law_3.2.2.2.2.2.2.2.2.2.2.2.2.2.2.2.2.2.2.2.2.2.2.2.2.1 ft_L_law_3.2.2.2.2.2.2.2.2.2.2.2.2.2.2.2.2.2.2.2.2.2.2.2.2.2.1 ft_L_law_3.2.2.2.2.2.2.2.2.2.2.2.2.2.2.2.2.2.2.2.2.2.2.2.2.2.2.1 rfl (by omega) hLn ?_
  refine L_call ft_L_law_3.2.2.2.2.2.2.2.2.2.2.2.2.2.2.2.2.2.2.2.2.2.2.2.2.2.2.2.1 (by decide) (show mtab 82 = MX6_lay from rfl) rfl hX.1 (Nat.le_of_ble_eq_true rfl) (X_lay (by decide) hI hX (fun h1 hX1 hk1 => ?_))
  have hR1 := MR_eq (eqO_of hk1 (by omega)) hR
  obtain ⟨fs, o1⟩ := MR_o hR1
  refine L_a2 ft_L_law_3.2.2.2.2.2.2.2.2.2.2.2.2.2.2.2.2.2.2.2.2.2.2.2.2.2.2.2.2.1 ?_
  refine L_arg 1 ft_L_law_3.2.2.2.2.2.2.2.2.2.2.2.2.2.2.2.2.2.2.2.2.2.2.2.2.2.2.2.2.2.1 ft_L_law_3.2.2.2.2.2.2.2.2.2.2.2.2.2.2.2.2.2.2.2.2.2.2.2.2.2.2.2.2.2.2.1 ft_L_law_3.2.2.2.2.2.2.2.2.2.2.2.2.2.2.2.2.2.2.2.2.2.2.2.2.2.2.2.2.2.2.2.1 ft_L_law_3.2.2.2.2.2.2.2.2.2.2.2.2.2.2.2.2.2.2.2.2.2.2.2.2.2.2.2.2.2.2.2.2.1 ft_L_law_3.2.2.2.2.2.2.2.2.2.2.2.2.2.2.2.2.2.2.2.2.2.2.2.2.2.2.2.2.2.2.2.2.2.1 rfl (by omega) hLn ?_
  refine L_arg 2 ft_L_law_3.2.2.2.2.2.2.2.2.2.2.2.2.2.2.2.2.2.2.2.2.2.2.2.2.2.2.2.2.2.2.2.2.2.2.1 ft_L_law_3.2.2.2.2.2.2.2.2.2.2.2.2.2.2.2.2.2.2.2.2.2.2.2.2.2.2.2.2.2.2.2.2.2.2.2.1 ft_L_law_3.2.2.2.2.2.2.2.2.2.2.2.2.2.2.2.2.2.2.2.2.2.2.2.2.2.2.2.2.2.2.2.2.2.2.2.2.1 ft_L_law_3.2.2.2.2.2.2.2.2.2.2.2.2.2.2.2.2.2.2.2.2.2.2.2.2.2.2.2.2.2.2.2.2.2.2.2.2.2.1 ft_L_law_3.2.2.2.2.2.2.2.2.2.2.2.2.2.2.2.2.2.2.2.2.2.2.2.2.2.2.2.2.2.2.2.2.2.2.2.2.2.2.1 rfl (by omega) hLn ?_
  refine L_arg 3 ft_L_law_3.2.2.2.2.2.2.2.2.2.2.2.2.2.2.2.2.2.2.2.2.2.2.2.2.2.2.2.2.2.2.2.2.2.2.2.2.2.2.2 ft_L_law_4.1 ft_L_law_4.2.1 ft_L_law_4.2.2.1 ft_L_law_4.2.2.2.1 rfl (by omega) hLn ?_
  refine L_call ft_L_law_4.2.2.2.2.1 (by decide) (show mtab 134 = MX7_lay from rfl) rfl o1 (Nat.le_of_ble_eq_true rfl) (M_lay (by decide) hI hR1 (fun h2 hR2 hk2 => ?_))
  refine L_eq ft_L_law_4.2.2.2.2.2.1 rfl ?_
  exact nx h2 _ (LI_next (I_lay hI) hX1 hk2 hR2)
set_option maxRecDepth 10000 in
theorem L_draw (hLn : Ln ≤ 2560) (hi : i + 4 < Ln) (hL : LI h G B S) (nx : ∀ h' S', LI h' G B S' → MW G ML_law (ZL b Ln xs (gB G)) 1006 (LL b B i) [] h' al) : MW G ML_law (ZL b Ln xs (gB G)) 332 (LL b B i) [] h al := by
  obtain ⟨hI, hX, hR⟩ := hL
  refine L_a1 ft_L_law_4.2.2.2.2.2.2.2.2.1 ?_
  refine L_arg 1 ft_L_law_4.2.2.2.2.2.2.2.2.2.1 ft_L_law_4.2.2.2.2.2.2.2.2.2.2.1 ft_L_law_4.2.2.2.2.2.2.2.2.2.2.2.1 ft_L_law_4.2.2.2.2.2.2.2.2.2.2.2.2.1 ft_L_law_4.2.2.2.2.2.2.2.2.2.2.2.2.2.1 rfl (by omega) hLn ?_
  refine L_arg 2 ft_L_law_4.2.2.2.2.2.2.2.2.2.2.2.2.2.2.1 ft_L_law_4.2.2.2.2.2.2.2.2.2.2.2.2.2.2.2.1 ft_L_law_4.2.2.2.2.2.2.2.2.2.2.2.2.2.2.2.2.1 ft_L_law_4.2.2.2.2.2.2.2.2.2.2.2.2.2.2.2.2.2.1 ft_L_law_4.2.2.2.2.2.2.2.2.2.2.2.2.2.2.2.2.2.2.1 rfl (by omega) hLn ?_
  refine L_arg 3 ft_L_law_4.2.2.2.2.2.2.2.2.2.2.2.2.2.2.2.2.2.2.2.1 ft_L_law_4.2.2.2.2.2.2.2.2.2.2.2.2.2.2.2.2.2.2.2.2.1 ft_L_law_4.2.2.2.2.2.2.2.2.2.2.2.2.2.2.2.2.2.2.2.2.2.1 ft_L_law_4.2.2.2.2.2.2.2.2.2.2.2.2.2.2.2.2.2.2.2.2.2.2.1 ft_L_law_4.2.2.2.2.2.2.2.2.2.2.2.2.2.2.2.2.2.2.2.2.2.2.2.1 rfl (by omega) hLn ?_
  refine L_arg 4 ft_L_law_4.2.2.2.2.2.2.2.2.2.2.2.2.2.2.2.2.2.2.2.2.2.2.2.2.1 ft_L_law_4.2.2.2.2.2.2.2.2.2.2.2.2.2.2.2.2.2.2.2.2.2.2.2.2.2.1 ft_L_law_4.2.2.2.2.2.2.2.2.2.2.2.2.2.2.2.2.2.2.2.2.2.2.2.2.2.2.1 ft_L_law_4.2.2.2.2.2.2.2.2.2.2.2.2.2.2.2.2.2.2.2.2.2.2.2.2.2.2.2.1 ft_L_law_4.2.2.2.2.2.2.2.2.2.2.2.2.2.2.2.2.2.2.2.2.2.2.2.2.2.2.2.2.1 rfl (by omega) hLn ?_
  refine L_call ft_L_law_4.2.2.2.2.2.2.2.2.2.2.2.2.2.2.2.2.2.2.2.2.2.2.2.2.2.2.2.2.2.1 (by decide) (show mtab 83 = MX6_draw from rfl) rfl hX.1 (Nat.le_of_ble_eq_true rfl) (X_draw (by decide) hI hX (fun h1 hX1 hk1 => ?_))
  have hR1 := MR_eq (eqO_of hk1 (by omega)) hR
  obtain ⟨fs, o1⟩ := MR_o hR1
  refine L_a2 ft_L_law_4.2.2.2.2.2.2.2.2.2.2.2.2.2.2.2.2.2.2.2.2.2.2.2.2.2.2.2.2.2.2.1 ?_
  refine L_arg 1 ft_L_law_4.2.2.2.2.2.2.2.2.2.2.2.2.2.2.2.2.2.2.2.2.2.2.2.2.2.2.2.2.2.2.2.1 ft_L_law_4.2.2.2.2.2.2.2.2.2.2.2.2.2.2.2.2.2.2.2.2.2.2.2.2.2.2.2.2.2.2.2.2.1 ft_L_law_4.2.2.2.2.2.2.2.2.2.2.2.2.2.2.2.2.2.2.2.2.2.2.2.2.2.2.2.2.2.2.2.2.2.1 ft_L_law_4.2.2.2.2.2.2.2.2.2.2.2.2.2.2.2.2.2.2.2.2.2.2.2.2.2.2.2.2.2.2.2.2.2.2.1 ft_L_law_4.2.2.2.2.2.2.2.2.2.2.2.2.2.2.2.2.2.2.2.2.2.2.2.2.2.2.2.2.2.2.2.2.2.2.2.1 rfl (by omega) hLn ?_
  refine L_arg 2 ft_L_law_4.2.2.2.2.2.2.2.2.2.2.2.2.2.2.2.2.2.2.2.2.2.2.2.2.2.2.2.2.2.2.2.2.2.2.2.2.1 ft_L_law_4.2.2.2.2.2.2.2.2.2.2.2.2.2.2.2.2.2.2.2.2.2.2.2.2.2.2.2.2.2.2.2.2.2.2.2.2.2.1 ft_L_law_4.2.2.2.2.2.2.2.2.2.2.2.2.2.2.2.2.2.2.2.2.2.2.2.2.2.2.2.2.2.2.2.2.2.2.2.2.2.2.1 ft_L_law_4.2.2.2.2.2.2.2.2.2.2.2.2.2.2.2.2.2.2.2.2.2.2.2.2.2.2.2.2.2.2.2.2.2.2.2.2.2.2.2 ft_L_law_5.1 rfl (by omega) hLn ?_
  refine L_arg 3 ft_L_law_5.2.1 ft_L_law_5.2.2.1 ft_L_law_5.2.2.2.1 ft_L_law_5.2.2.2.2.1 ft_L_law_5.2.2.2.2.2.1 rfl (by omega) hLn ?_
  refine L_arg 4 ft_L_law_5.2.2.2.2.2.2.1 ft_L_law_5.2.2.2.2.2.2.2.1 ft_L_law_5.2.2.2.2.2.2.2.2.1 ft_L_law_5.2.2.2.2.2.2.2.2.2.1 ft_L_law_5.2.2.2.2.2.2.2.2.2.2.1 rfl (by omega) hLn ?_
  refine L_call ft_L_law_5.2.2.2.2.2.2.2.2.2.2.2.1 (by decide) (show mtab 135 = MX7_draw from rfl) rfl o1 (Nat.le_of_ble_eq_true rfl) (M_draw (by decide) hI hR1 (fun h2 hR2 hk2 => ?_))
  refine L_eq ft_L_law_5.2.2.2.2.2.2.2.2.2.2.2.2.1 rfl ?_
  exact nx h2 _ (LI_next (I_draw hI) hX1 hk2 hR2)
set_option maxRecDepth 10000 in
theorem L_copy (hLn : Ln ≤ 2560) (hi : i + 4 < Ln) (hL : LI h G B S) (nx : ∀ h' S', LI h' G B S' → MW G ML_law (ZL b Ln xs (gB G)) 1006 (LL b B i) [] h' al) : MW G ML_law (ZL b Ln xs (gB G)) 385 (LL b B i) [] h al := by
  obtain ⟨hI, hX, hR⟩ := hL
  refine L_a1 ft_L_law_5.2.2.2.2.2.2.2.2.2.2.2.2.2.2.2.1 ?_
  refine L_arg 1 ft_L_law_5.2.2.2.2.2.2.2.2.2.2.2.2.2.2.2.2.1 ft_L_law_5.2.2.2.2.2.2.2.2.2.2.2.2.2.2.2.2.2.1 ft_L_law_5.2.2.2.2.2.2.2.2.2.2.2.2.2.2.2.2.2.2.1 ft_L_law_5.2.2.2.2.2.2.2.2.2.2.2.2.2.2.2.2.2.2.2.1 ft_L_law_5.2.2.2.2.2.2.2.2.2.2.2.2.2.2.2.2.2.2.2.2.1 rfl (by omega) hLn ?_
  refine L_call ft_L_law_5.2.2.2.2.2.2.2.2.2.2.2.2.2.2.2.2.2.2.2.2.2.1 (by decide) (show mtab 84 = MX6_copy from rfl) rfl hX.1 (Nat.le_of_ble_eq_true rfl) (X_copy (by decide) hI hX (fun h1 hX1 hk1 => ?_))
  have hR1 := MR_eq (eqO_of hk1 (by omega)) hR
  obtain ⟨fs, o1⟩ := MR_o hR1
  refine L_a2 ft_L_law_5.2.2.2.2.2.2.2.2.2.2.2.2.2.2.2.2.2.2.2.2.2.2.1 ?_
  refine L_arg 1 ft_L_law_5.2.2.2.2.2.2.2.2.2.2.2.2.2.2.2.2.2.2.2.2.2.2.2.1 ft_L_law_5.2.2.2.2.2.2.2.2.2.2.2.2.2.2.2.2.2.2.2.2.2.2.2.2.1 ft_L_law_5.2.2.2.2.2.2.2.2.2.2.2.2.2.2.2.2.2.2.2.2.2.2.2.2.2.1 ft_L_law_5.2.2.2.2.2.2.2.2.2.2.2.2.2.2.2.2.2.2.2.2.2.2.2.2.2.2.1 ft_L_law_5.2.2.2.2.2.2.2.2.2.2.2.2.2.2.2.2.2.2.2.2.2.2.2.2.2.2.2.1 rfl (by omega) hLn ?_
  refine L_call ft_L_law_5.2.2.2.2.2.2.2.2.2.2.2.2.2.2.2.2.2.2.2.2.2.2.2.2.2.2.2.2.1 (by decide) (show mtab 136 = MX7_copy from rfl) rfl o1 (Nat.le_of_ble_eq_true rfl) (M_copy (by decide) hI hR1 (fun h2 hR2 hk2 => ?_))
  refine L_eq ft_L_law_5.2.2.2.2.2.2.2.2.2.2.2.2.2.2.2.2.2.2.2.2.2.2.2.2.2.2.2.2.2.1 rfl ?_
  exact nx h2 _ (LI_next (I_copy hI) hX1 hk2 hR2)
set_option maxRecDepth 10000 in
theorem L_drop (hLn : Ln ≤ 2560) (hi : i + 4 < Ln) (hL : LI h G B S) (nx : ∀ h' S', LI h' G B S' → MW G ML_law (ZL b Ln xs (gB G)) 1006 (LL b B i) [] h' al) : MW G ML_law (ZL b Ln xs (gB G)) 408 (LL b B i) [] h al := by
  obtain ⟨hI, hX, hR⟩ := hL
  refine L_a1 ft_L_law_5.2.2.2.2.2.2.2.2.2.2.2.2.2.2.2.2.2.2.2.2.2.2.2.2.2.2.2.2.2.2.2.2.1 ?_
  refine L_call ft_L_law_5.2.2.2.2.2.2.2.2.2.2.2.2.2.2.2.2.2.2.2.2.2.2.2.2.2.2.2.2.2.2.2.2.2.1 (by decide) (show mtab 85 = MX6_drop from rfl) rfl hX.1 (Nat.le_of_ble_eq_true rfl) (X_drop hI hX (fun h1 hX1 hk1 => ?_))
  have hR1 := MR_eq (eqO_of hk1 (by omega)) hR
  obtain ⟨fs, o1⟩ := MR_o hR1
  refine L_a2 ft_L_law_5.2.2.2.2.2.2.2.2.2.2.2.2.2.2.2.2.2.2.2.2.2.2.2.2.2.2.2.2.2.2.2.2.2.2.1 ?_
  refine L_call ft_L_law_5.2.2.2.2.2.2.2.2.2.2.2.2.2.2.2.2.2.2.2.2.2.2.2.2.2.2.2.2.2.2.2.2.2.2.2.1 (by decide) (show mtab 137 = MX7_drop from rfl) rfl o1 (Nat.le_of_ble_eq_true rfl) (M_drop hI hR1 (fun h2 hR2 hk2 => ?_))
  refine L_eq ft_L_law_5.2.2.2.2.2.2.2.2.2.2.2.2.2.2.2.2.2.2.2.2.2.2.2.2.2.2.2.2.2.2.2.2.2.2.2.2.1 rfl ?_
  exact nx h2 _ (LI_next (I_drop hI) hX1 hk2 hR2)
set_option maxRecDepth 10000 in
theorem L_event (hLn : Ln ≤ 2560) (hi : i + 4 < Ln) (hL : LI h G B S) (nx : ∀ h' S', LI h' G B S' → MW G ML_law (ZL b Ln xs (gB G)) 1006 (LL b B i) [] h' al) : MW G ML_law (ZL b Ln xs (gB G)) 421 (LL b B i) [] h al := by
  obtain ⟨hI, hX, hR⟩ := hL
  refine L_a1 ft_L_law_5.2.2.2.2.2.2.2.2.2.2.2.2.2.2.2.2.2.2.2.2.2.2.2.2.2.2.2.2.2.2.2.2.2.2.2.2.2.2.2 ?_
  refine L_arg 1 ft_L_law_6.1 ft_L_law_6.2.1 ft_L_law_6.2.2.1 ft_L_law_6.2.2.2.1 ft_L_law_6.2.2.2.2.1 rfl (by omega) hLn ?_
  refine L_arg 2 ft_L_law_6.2.2.2.2.2.1 ft_L_law_6.2.2.2.2.2.2.1 ft_L_law_6.2.2.2.2.2.2.2.1 ft_L_law_6.2.2.2.2.2.2.2.2.1 ft_L_law_6.2.2.2.2.2.2.2.2.2.1 rfl (by omega) hLn ?_
  refine L_arg 3 ft_L_law_6.2.2.2.2.2.2.2.2.2.2.1 ft_L_law_6.2.2.2.2.2.2.2.2.2.2.2.1 ft_L_law_6.2.2.2.2.2.2.2.2.2.2.2.2.1 ft_L_law_6.2.2.2.2.2.2.2.2.2.2.2.2.2.1 ft_L_law_6.2.2.2.2.2.2.2.2.2.2.2.2.2.2.1 rfl (by omega) hLn ?_
  refine L_call ft_L_law_6.2.2.2.2.2.2.2.2.2.2.2.2.2.2.2.1 (by decide) (show mtab 86 = MX6_event from rfl) rfl hX.1 (Nat.le_of_ble_eq_true rfl) (X_event (by decide) hI hX (fun h1 hX1 hk1 => ?_))
  have hR1 := MR_eq (eqO_of hk1 (by omega)) hR
  obtain ⟨fs, o1⟩ := MR_o hR1
  refine L_a2 ft_L_law_6.2.2.2.2.2.2.2.2.2.2.2.2.2.2.2.2.1 ?_
  refine L_arg 1 ft_L_law_6.2.2.2.2.2.2.2.2.2.2.2.2.2.2.2.2.2.1 ft_L_law_6.2.2.2.2.2.2.2.2.2.2.2.2.2.2.2.2.2.2.1 ft_L_law_6.2.2.2.2.2.2.2.2.2.2.2.2.2.2.2.2.2.2.2.1 ft_L_law_6.2.2.2.2.2.2.2.2.2.2.2.2.2.2.2.2.2.2.2.2.1 ft_L_law_6.2.2.2.2.2.2.2.2.2.2.2.2.2.2.2.2.2.2.2.2.2.1 rfl (by omega) hLn ?_
  refine L_arg 2 ft_L_law_6.2.2.2.2.2.2.2.2.2.2.2.2.2.2.2.2.2.2.2.2.2.2.1 ft_L_law_6.2.2.2.2.2.2.2.2.2.2.2.2.2.2.2.2.2.2.2.2.2.2.2.1 ft_L_law_6.2.2.2.2.2.2.2.2.2.2.2.2.2.2.2.2.2.2.2.2.2.2.2.2.1 ft_L_law_6.2.2.2.2.2.2.2.2.2.2.2.2.2.2.2.2.2.2.2.2.2.2.2.2.2.1 ft_L_law_6.2.2.2.2.2.2.2.2.2.2.2.2.2.2.2.2.2.2.2.2.2.2.2.2.2.2.1 rfl (by omega) hLn ?_
  refine L_arg 3 ft_L_law_6.2.2.2.2.2.2.2.2.2.2.2.2.2.2.2.2.2.2.2.2.2.2.2.2.2.2.2.1 ft_L_law_6.2.2.2.2.2.2.2.2.2.2.2.2.2.2.2.2.2.2.2.2.2.2.2.2.2.2.2.2.1 ft_L_law_6.2.2.2.2.2.2.2.2.2.2.2.2.2.2.2.2.2.2.2.2.2.2.2.2.2.2.2.2.2.1 ft_L_law_6.2.2.2.2.2.2.2.2.2.2.2.2.2.2.2.2.2.2.2.2.2.2.2.2.2.2.2.2.2.2.1 ft_L_law_6.2.2.2.2.2.2.2.2.2.2.2.2.2.2.2.2.2.2.2.2.2.2.2.2.2.2.2.2.2.2.2.1 rfl (by omega) hLn ?_
  refine L_call ft_L_law_6.2.2.2.2.2.2.2.2.2.2.2.2.2.2.2.2.2.2.2.2.2.2.2.2.2.2.2.2.2.2.2.2.1 (by decide) (show mtab 138 = MX7_event from rfl) rfl o1 (Nat.le_of_ble_eq_true rfl) (M_event (by decide) hI hR1 (fun h2 hR2 hk2 => ?_))
  refine L_eq ft_L_law_6.2.2.2.2.2.2.2.2.2.2.2.2.2.2.2.2.2.2.2.2.2.2.2.2.2.2.2.2.2.2.2.2.2.1 rfl ?_
  exact nx h2 _ (LI_next (hI) hX1 hk2 hR2)
set_option maxRecDepth 10000 in
theorem L_about (hLn : Ln ≤ 2560) (hi : i + 4 < Ln) (hL : LI h G B S) (nx : ∀ h' S', LI h' G B S' → MW G ML_law (ZL b Ln xs (gB G)) 1006 (LL b B i) [] h' al) : MW G ML_law (ZL b Ln xs (gB G)) 464 (LL b B i) [] h al := by
  obtain ⟨hI, hX, hR⟩ := hL
  refine L_a1 ft_L_law_6.2.2.2.2.2.2.2.2.2.2.2.2.2.2.2.2.2.2.2.2.2.2.2.2.2.2.2.2.2.2.2.2.2.2.2.2.1 ?_
  refine L_arg 1 ft_L_law_6.2.2.2.2.2.2.2.2.2.2.2.2.2.2.2.2.2.2.2.2.2.2.2.2.2.2.2.2.2.2.2.2.2.2.2.2.2.1 ft_L_law_6.2.2.2.2.2.2.2.2.2.2.2.2.2.2.2.2.2.2.2.2.2.2.2.2.2.2.2.2.2.2.2.2.2.2.2.2.2.2.1 ft_L_law_6.2.2.2.2.2.2.2.2.2.2.2.2.2.2.2.2.2.2.2.2.2.2.2.2.2.2.2.2.2.2.2.2.2.2.2.2.2.2.2 ft_L_law_7.1 ft_L_law_7.2.1 rfl (by omega) hLn ?_
  refine L_arg 2 ft_L_law_7.2.2.1 ft_L_law_7.2.2.2.1 ft_L_law_7.2.2.2.2.1 ft_L_law_7.2.2.2.2.2.1 ft_L_law_7.2.2.2.2.2.2.1 rfl (by omega) hLn ?_
  refine L_call ft_L_law_7.2.2.2.2.2.2.2.1 (by decide) (show mtab 87 = MX6_about from rfl) rfl hX.1 (Nat.le_of_ble_eq_true rfl) (X_about (by decide) hI hX (fun h1 hX1 hk1 => ?_))
  have hR1 := MR_eq (eqO_of hk1 (by omega)) hR
  obtain ⟨fs, o1⟩ := MR_o hR1
  refine L_a2 ft_L_law_7.2.2.2.2.2.2.2.2.1 ?_
  refine L_arg 1 ft_L_law_7.2.2.2.2.2.2.2.2.2.1 ft_L_law_7.2.2.2.2.2.2.2.2.2.2.1 ft_L_law_7.2.2.2.2.2.2.2.2.2.2.2.1 ft_L_law_7.2.2.2.2.2.2.2.2.2.2.2.2.1 ft_L_law_7.2.2.2.2.2.2.2.2.2.2.2.2.2.1 rfl (by omega) hLn ?_
  refine L_arg 2 ft_L_law_7.2.2.2.2.2.2.2.2.2.2.2.2.2.2.1 ft_L_law_7.2.2.2.2.2.2.2.2.2.2.2.2.2.2.2.1 ft_L_law_7.2.2.2.2.2.2.2.2.2.2.2.2.2.2.2.2.1 ft_L_law_7.2.2.2.2.2.2.2.2.2.2.2.2.2.2.2.2.2.1 ft_L_law_7.2.2.2.2.2.2.2.2.2.2.2.2.2.2.2.2.2.2.1 rfl (by omega) hLn ?_
  refine L_call ft_L_law_7.2.2.2.2.2.2.2.2.2.2.2.2.2.2.2.2.2.2.2.1 (by decide) (show mtab 142 = MX7_about from rfl) rfl o1 (Nat.le_of_ble_eq_true rfl) (M_about (by decide) hI hR1 (fun h2 hR2 hk2 => ?_))
  refine L_eq ft_L_law_7.2.2.2.2.2.2.2.2.2.2.2.2.2.2.2.2.2.2.2.2.1 rfl ?_
  exact nx h2 _ (LI_next (hI) hX1 hk2 hR2)
set_option maxRecDepth 10000 in
theorem L_piece (hLn : Ln ≤ 2560) (hi : i + 4 < Ln) (hL : LI h G B S) (nx : ∀ h' S', LI h' G B S' → MW G ML_law (ZL b Ln xs (gB G)) 1006 (LL b B i) [] h' al) : MW G ML_law (ZL b Ln xs (gB G)) 497 (LL b B i) [] h al := by
  obtain ⟨hI, hX, hR⟩ := hL
  refine L_a1 ft_L_law_7.2.2.2.2.2.2.2.2.2.2.2.2.2.2.2.2.2.2.2.2.2.2.2.1 ?_
  refine L_arg 1 ft_L_law_7.2.2.2.2.2.2.2.2.2.2.2.2.2.2.2.2.2.2.2.2.2.2.2.2.1 ft_L_law_7.2.2.2.2.2.2.2.2.2.2.2.2.2.2.2.2.2.2.2.2.2.2.2.2.2.1 ft_L_law_7.2.2.2.2.2.2.2.2.2.2.2.2.2.2.2.2.2.2.2.2.2.2.2.2.2.2.1 ft_L_law_7.2.2.2.2.2.2.2.2.2.2.2.2.2.2.2.2.2.2.2.2.2.2.2.2.2.2.2.1 ft_L_law_7.2.2.2.2.2.2.2.2.2.2.2.2.2.2.2.2.2.2.2.2.2.2.2.2.2.2.2.2.1 rfl (by omega) hLn ?_
  refine L_arg 2 ft_L_law_7.2.2.2.2.2.2.2.2.2.2.2.2.2.2.2.2.2.2.2.2.2.2.2.2.2.2.2.2.2.1 ft_L_law_7.2.2.2.2.2.2.2.2.2.2.2.2.2.2.2.2.2.2.2.2.2.2.2.2.2.2.2.2.2.2.1 ft_L_law_7.2.2.2.2.2.2.2.2.2.2.2.2.2.2.2.2.2.2.2.2.2.2.2.2.2.2.2.2.2.2.2.1 ft_L_law_7.2.2.2.2.2.2.2.2.2.2.2.2.2.2.2.2.2.2.2.2.2.2.2.2.2.2.2.2.2.2.2.2.1 ft_L_law_7.2.2.2.2.2.2.2.2.2.2.2.2.2.2.2.2.2.2.2.2.2.2.2.2.2.2.2.2.2.2.2.2.2.1 rfl (by omega) hLn ?_
  refine L_arg 3 ft_L_law_7.2.2.2.2.2.2.2.2.2.2.2.2.2.2.2.2.2.2.2.2.2.2.2.2.2.2.2.2.2.2.2.2.2.2.1 ft_L_law_7.2.2.2.2.2.2.2.2.2.2.2.2.2.2.2.2.2.2.2.2.2.2.2.2.2.2.2.2.2.2.2.2.2.2.2.1 ft_L_law_7.2.2.2.2.2.2.2.2.2.2.2.2.2.2.2.2.2.2.2.2.2.2.2.2.2.2.2.2.2.2.2.2.2.2.2.2.1 ft_L_law_7.2.2.2.2.2.2.2.2.2.2.2.2.2.2.2.2.2.2.2.2.2.2.2.2.2.2.2.2.2.2.2.2.2.2.2.2.2.1 ft_L_law_7.2.2.2.2.2.2.2.2.2.2.2.2.2.2.2.2.2.2.2.2.2.2.2.2.2.2.2.2.2.2.2.2.2.2.2.2.2.2.1 rfl (by omega) hLn ?_
  refine L_call ft_L_law_7.2.2.2.2.2.2.2.2.2.2.2.2.2.2.2.2.2.2.2.2.2.2.2.2.2.2.2.2.2.2.2.2.2.2.2.2.2.2.2 (by decide) (show mtab 88 = MX6_piece from rfl) rfl hX.1 (Nat.le_of_ble_eq_true rfl) (X_piece (by decide) hI hX (fun h1 hX1 hk1 => ?_))
  have hR1 := MR_eq (eqO_of hk1 (by omega)) hR
  obtain ⟨fs, o1⟩ := MR_o hR1
  refine L_a2 ft_L_law_8.1 ?_
  refine L_arg 1 ft_L_law_8.2.1 ft_L_law_8.2.2.1 ft_L_law_8.2.2.2.1 ft_L_law_8.2.2.2.2.1 ft_L_law_8.2.2.2.2.2.1 rfl (by omega) hLn ?_
  refine L_arg 2 ft_L_law_8.2.2.2.2.2.2.1 ft_L_law_8.2.2.2.2.2.2.2.1 ft_L_law_8.2.2.2.2.2.2.2.2.1 ft_L_law_8.2.2.2.2.2.2.2.2.2.1 ft_L_law_8.2.2.2.2.2.2.2.2.2.2.1 rfl (by omega) hLn ?_
  refine L_arg 3 ft_L_law_8.2.2.2.2.2.2.2.2.2.2.2.1 ft_L_law_8.2.2.2.2.2.2.2.2.2.2.2.2.1 ft_L_law_8.2.2.2.2.2.2.2.2.2.2.2.2.2.1 ft_L_law_8.2.2.2.2.2.2.2.2.2.2.2.2.2.2.1 ft_L_law_8.2.2.2.2.2.2.2.2.2.2.2.2.2.2.2.1 rfl (by omega) hLn ?_
  refine L_call ft_L_law_8.2.2.2.2.2.2.2.2.2.2.2.2.2.2.2.2.1 (by decide) (show mtab 143 = MX7_piece from rfl) rfl o1 (Nat.le_of_ble_eq_true rfl) (M_piece (by decide) hI hR1 (fun h2 hR2 hk2 => ?_))
  refine L_eq ft_L_law_8.2.2.2.2.2.2.2.2.2.2.2.2.2.2.2.2.2.1 rfl ?_
  exact nx h2 _ (LI_next (hI) hX1 hk2 hR2)
set_option maxRecDepth 10000 in
theorem L_number (hLn : Ln ≤ 2560) (hi : i + 4 < Ln) (hL : LI h G B S) (nx : ∀ h' S', LI h' G B S' → MW G ML_law (ZL b Ln xs (gB G)) 1006 (LL b B i) [] h' al) : MW G ML_law (ZL b Ln xs (gB G)) 540 (LL b B i) [] h al := by
  obtain ⟨hI, hX, hR⟩ := hL
  refine L_a1 ft_L_law_8.2.2.2.2.2.2.2.2.2.2.2.2.2.2.2.2.2.2.2.2.1 ?_
  refine L_arg 1 ft_L_law_8.2.2.2.2.2.2.2.2.2.2.2.2.2.2.2.2.2.2.2.2.2.1 ft_L_law_8.2.2.2.2.2.2.2.2.2.2.2.2.2.2.2.2.2.2.2.2.2.2.1 ft_L_law_8.2.2.2.2.2.2.2.2.2.2.2.2.2.2.2.2.2.2.2.2.2.2.2.1 ft_L_law_8.2.2.2.2.2.2.2.2.2.2.2.2.2.2.2.2.2.2.2.2.2.2.2.2.1 ft_L_law_8.2.2.2.2.2.2.2.2.2.2.2.2.2.2.2.2.2.2.2.2.2.2.2.2.2.1 rfl (by omega) hLn ?_
  refine L_arg 2 ft_L_law_8.2.2.2.2.2.2.2.2.2.2.2.2.2.2.2.2.2.2.2.2.2.2.2.2.2.2.1 ft_L_law_8.2.2.2.2.2.2.2.2.2.2.2.2.2.2.2.2.2.2.2.2.2.2.2.2.2.2.2.1 ft_L_law_8.2.2.2.2.2.2.2.2.2.2.2.2.2.2.2.2.2.2.2.2.2.2.2.2.2.2.2.2.1 ft_L_law_8.2.2.2.2.2.2.2.2.2.2.2.2.2.2.2.2.2.2.2.2.2.2.2.2.2.2.2.2.2.1 ft_L_law_8.2.2.2.2.2.2.2.2.2.2.2.2.2.2.2.2.2.2.2.2.2.2.2.2.2.2.2.2.2.2.1 rfl (by omega) hLn ?_
  refine L_arg 3 ft_L_law_8.2.2.2.2.2.2.2.2.2.2.2.2.2.2.2.2.2.2.2.2.2.2.2.2.2.2.2.2.2.2.2.1 ft_L_law_8.2.2.2.2.2.2.2.2.2.2.2.2.2.2.2.2.2.2.2.2.2.2.2.2.2.2.2.2.2.2.2.2.1 ft_L_law_8.2.2.2.2.2.2.2.2.2.2.2.2.2.2.2.2.2.2.2.2.2.2.2.2.2.2.2.2.2.2.2.2.2.1 ft_L_law_8.2.2.2.2.2.2.2.2.2.2.2.2.2.2.2.2.2.2.2.2.2.2.2.2.2.2.2.2.2.2.2.2.2.2.1 ft_L_law_8.2.2.2.2.2.2.2.2.2.2.2.2.2.2.2.2.2.2.2.2.2.2.2.2.2.2.2.2.2.2.2.2.2.2.2.1 rfl (by omega) hLn ?_
  refine L_call ft_L_law_8.2.2.2.2.2.2.2.2.2.2.2.2.2.2.2.2.2.2.2.2.2.2.2.2.2.2.2.2.2.2.2.2.2.2.2.2.1 (by decide) (show mtab 89 = MX6_number from rfl) rfl hX.1 (Nat.le_of_ble_eq_true rfl) (X_number (by decide) hI hX (fun h1 hX1 hk1 => ?_))
  have hR1 := MR_eq (eqO_of hk1 (by omega)) hR
  obtain ⟨fs, o1⟩ := MR_o hR1
  refine L_a2 ft_L_law_8.2.2.2.2.2.2.2.2.2.2.2.2.2.2.2.2.2.2.2.2.2.2.2.2.2.2.2.2.2.2.2.2.2.2.2.2.2.1 ?_
  refine L_arg 1 ft_L_law_8.2.2.2.2.2.2.2.2.2.2.2.2.2.2.2.2.2.2.2.2.2.2.2.2.2.2.2.2.2.2.2.2.2.2.2.2.2.2.1 ft_L_law_8.2.2.2.2.2.2.2.2.2.2.2.2.2.2.2.2.2.2.2.2.2.2.2.2.2.2.2.2.2.2.2.2.2.2.2.2.2.2.2 ft_L_law_9.1 ft_L_law_9.2.1 ft_L_law_9.2.2.1 rfl (by omega) hLn ?_
  refine L_arg 2 ft_L_law_9.2.2.2.1 ft_L_law_9.2.2.2.2.1 ft_L_law_9.2.2.2.2.2.1 ft_L_law_9.2.2.2.2.2.2.1 ft_L_law_9.2.2.2.2.2.2.2.1 rfl (by omega) hLn ?_
  refine L_arg 3 ft_L_law_9.2.2.2.2.2.2.2.2.1 ft_L_law_9.2.2.2.2.2.2.2.2.2.1 ft_L_law_9.2.2.2.2.2.2.2.2.2.2.1 ft_L_law_9.2.2.2.2.2.2.2.2.2.2.2.1 ft_L_law_9.2.2.2.2.2.2.2.2.2.2.2.2.1 rfl (by omega) hLn ?_
  refine L_call ft_L_law_9.2.2.2.2.2.2.2.2.2.2.2.2.2.1 (by decide) (show mtab 145 = MX7_number from rfl) rfl o1 (Nat.le_of_ble_eq_true rfl) (M_number (by decide) hI hR1 (fun h2 hR2 hk2 => ?_))
  refine L_eq ft_L_law_9.2.2.2.2.2.2.2.2.2.2.2.2.2.2.1 rfl ?_
  exact nx h2 _ (LI_next (hI) hX1 hk2 hR2)
set_option maxRecDepth 10000 in
theorem L_link (hLn : Ln ≤ 2560) (hi : i + 4 < Ln) (hL : LI h G B S) (nx : ∀ h' S', LI h' G B S' → MW G ML_law (ZL b Ln xs (gB G)) 1006 (LL b B i) [] h' al) : MW G ML_law (ZL b Ln xs (gB G)) 583 (LL b B i) [] h al := by
  obtain ⟨hI, hX, hR⟩ := hL
  refine L_a1 ft_L_law_9.2.2.2.2.2.2.2.2.2.2.2.2.2.2.2.2.2.1 ?_
  refine L_arg 1 ft_L_law_9.2.2.2.2.2.2.2.2.2.2.2.2.2.2.2.2.2.2.1 ft_L_law_9.2.2.2.2.2.2.2.2.2.2.2.2.2.2.2.2.2.2.2.1 ft_L_law_9.2.2.2.2.2.2.2.2.2.2.2.2.2.2.2.2.2.2.2.2.1 ft_L_law_9.2.2.2.2.2.2.2.2.2.2.2.2.2.2.2.2.2.2.2.2.2.1 ft_L_law_9.2.2.2.2.2.2.2.2.2.2.2.2.2.2.2.2.2.2.2.2.2.2.1 rfl (by omega) hLn ?_
  refine L_arg 2 ft_L_law_9.2.2.2.2.2.2.2.2.2.2.2.2.2.2.2.2.2.2.2.2.2.2.2.1 ft_L_law_9.2.2.2.2.2.2.2.2.2.2.2.2.2.2.2.2.2.2.2.2.2.2.2.2.1 ft_L_law_9.2.2.2.2.2.2.2.2.2.2.2.2.2.2.2.2.2.2.2.2.2.2.2.2.2.1 ft_L_law_9.2.2.2.2.2.2.2.2.2.2.2.2.2.2.2.2.2.2.2.2.2.2.2.2.2.2.1 ft_L_law_9.2.2.2.2.2.2.2.2.2.2.2.2.2.2.2.2.2.2.2.2.2.2.2.2.2.2.2.1 rfl (by omega) hLn ?_
  refine L_arg 3 ft_L_law_9.2.2.2.2.2.2.2.2.2.2.2.2.2.2.2.2.2.2.2.2.2.2.2.2.2.2.2.2.1 ft_L_law_9.2.2.2.2.2.2.2.2.2.2.2.2.2.2.2.2.2.2.2.2.2.2.2.2.2.2.2.2.2.1 ft_L_law_9.2.2.2.2.2.2.2.2.2.2.2.2.2.2.2.2.2.2.2.2.2.2.2.2.2.2.2.2.2.2.1 ft_L_law_9.2.2.2.2.2.2.2.2.2.2.2.2.2.2.2.2.2.2.2.2.2.2.2.2.2.2.2.2.2.2.2.1 ft_L_law_9.2.2.2.2.2.2.2.2.2.2.2.2.2.2.2.2.2.2.2.2.2.2.2.2.2.2.2.2.2.2.2.2.1 rfl (by omega) hLn ?_
  refine L_call ft_L_law_9.2.2.2.2.2.2.2.2.2.2.2.2.2.2.2.2.2.2.2.2.2.2.2.2.2.2.2.2.2.2.2.2.2.1 (by decide) (show mtab 90 = MX6_link from rfl) rfl hX.1 (Nat.le_of_ble_eq_true rfl) (X_link (by decide) hI hX (fun h1 hX1 hk1 => ?_))
  have hR1 := MR_eq (eqO_of hk1 (by omega)) hR
  obtain ⟨fs, o1⟩ := MR_o hR1
  refine L_a2 ft_L_law_9.2.2.2.2.2.2.2.2.2.2.2.2.2.2.2.2.2.2.2.2.2.2.2.2.2.2.2.2.2.2.2.2.2.2.1 ?_
  refine L_arg 1 ft_L_law_9.2.2.2.2.2.2.2.2.2.2.2.2.2.2.2.2.2.2.2.2.2.2.2.2.2.2.2.2.2.2.2.2.2.2.2.1 ft_L_law_9.2.2.2.2.2.2.2.2.2.2.2.2.2.2.2.2.2.2.2.2.2.2.2.2.2.2.2.2.2.2.2.2.2.2.2.2.1 ft_L_law_9.2.2.2.2.2.2.2.2.2.2.2.2.2.2.2.2.2.2.2.2.2.2.2.2.2.2.2.2.2.2.2.2.2.2.2.2.2.1 ft_L_law_9.2.2.2.2.2.2.2.2.2.2.2.2.2.2.2.2.2.2.2.2.2.2.2.2.2.2.2.2.2.2.2.2.2.2.2.2.2.2.1 ft_L_law_9.2.2.2.2.2.2.2.2.2.2.2.2.2.2.2.2.2.2.2.2.2.2.2.2.2.2.2.2.2.2.2.2.2.2.2.2.2.2.2 rfl (by omega) hLn ?_
  refine L_arg 2 ft_L_law_10.1 ft_L_law_10.2.1 ft_L_law_10.2.2.1 ft_L_law_10.2.2.2.1 ft_L_law_10.2.2.2.2.1 rfl (by omega) hLn ?_
  refine L_arg 3 ft_L_law_10.2.2.2.2.2.1 ft_L_law_10.2.2.2.2.2.2.1 ft_L_law_10.2.2.2.2.2.2.2.1 ft_L_law_10.2.2.2.2.2.2.2.2.1 ft_L_law_10.2.2.2.2.2.2.2.2.2.1 rfl (by omega) hLn ?_
  refine L_call ft_L_law_10.2.2.2.2.2.2.2.2.2.2.1 (by decide) (show mtab 146 = MX7_link from rfl) rfl o1 (Nat.le_of_ble_eq_true rfl) (M_link (by decide) hI hR1 (fun h2 hR2 hk2 => ?_))
  refine L_eq ft_L_law_10.2.2.2.2.2.2.2.2.2.2.2.1 rfl ?_
  exact nx h2 _ (LI_next (hI) hX1 hk2 hR2)
set_option maxRecDepth 10000 in
theorem L_sign (hLn : Ln ≤ 2560) (hi : i + 4 < Ln) (hL : LI h G B S) (nx : ∀ h' S', LI h' G B S' → MW G ML_law (ZL b Ln xs (gB G)) 1006 (LL b B i) [] h' al) : MW G ML_law (ZL b Ln xs (gB G)) 626 (LL b B i) [] h al := by
  obtain ⟨hI, hX, hR⟩ := hL
  refine L_a1 ft_L_law_10.2.2.2.2.2.2.2.2.2.2.2.2.2.2.1 ?_
  refine L_arg 1 ft_L_law_10.2.2.2.2.2.2.2.2.2.2.2.2.2.2.2.1 ft_L_law_10.2.2.2.2.2.2.2.2.2.2.2.2.2.2.2.2.1 ft_L_law_10.2.2.2.2.2.2.2.2.2.2.2.2.2.2.2.2.2.1 ft_L_law_10.2.2.2.2.2.2.2.2.2.2.2.2.2.2.2.2.2.2.1 ft_L_law_10.2.2.2.2.2.2.2.2.2.2.2.2.2.2.2.2.2.2.2.1 rfl (by omega) hLn ?_
  refine L_arg 2 ft_L_law_10.2.2.2.2.2.2.2.2.2.2.2.2.2.2.2.2.2.2.2.2.1 ft_L_law_10.2.2.2.2.2.2.2.2.2.2.2.2.2.2.2.2.2.2.2.2.2.1 ft_L_law_10.2.2.2.2.2.2.2.2.2.2.2.2.2.2.2.2.2.2.2.2.2.2.1 ft_L_law_10.2.2.2.2.2.2.2.2.2.2.2.2.2.2.2.2.2.2.2.2.2.2.2.1 ft_L_law_10.2.2.2.2.2.2.2.2.2.2.2.2.2.2.2.2.2.2.2.2.2.2.2.2.1 rfl (by omega) hLn ?_
  refine L_call ft_L_law_10.2.2.2.2.2.2.2.2.2.2.2.2.2.2.2.2.2.2.2.2.2.2.2.2.2.1 (by decide) (show mtab 91 = MX6_sign from rfl) rfl hX.1 (Nat.le_of_ble_eq_true rfl) (X_sign (by decide) hI hX (fun h1 hX1 hk1 => ?_))
  have hR1 := MR_eq (eqO_of hk1 (by omega)) hR
  obtain ⟨fs, o1⟩ := MR_o hR1
  refine L_a2 ft_L_law_10.2.2.2.2.2.2.2.2.2.2.2.2.2.2.2.2.2.2.2.2.2.2.2.2.2.2.1 ?_
  refine L_arg 1 ft_L_law_10.2.2.2.2.2.2.2.2.2.2.2.2.2.2.2.2.2.2.2.2.2.2.2.2.2.2.2.1 ft_L_law_10.2.2.2.2.2.2.2.2.2.2.2.2.2.2.2.2.2.2.2.2.2.2.2.2.2.2.2.2.1 ft_L_law_10.2.2.2.2.2.2.2.2.2.2.2.2.2.2.2.2.2.2.2.2.2.2.2.2.2.2.2.2.2.1 ft_L_law_10.2.2.2.2.2.2.2.2.2.2.2.2.2.2.2.2.2.2.2.2.2.2.2.2.2.2.2.2.2.2.1 ft_L_law_10.2.2.2.2.2.2.2.2.2.2.2.2.2.2.2.2.2.2.2.2.2.2.2.2.2.2.2.2.2.2.2.1 rfl (by omega) hLn ?_
  refine L_arg 2 ft_L_law_10.2.2.2.2.2.2.2.2.2.2.2.2.2.2.2.2.2.2.2.2.2.2.2.2.2.2.2.2.2.2.2.2.1 ft_L_law_10.2.2.2.2.2.2.2.2.2.2.2.2.2.2.2.2.2.2.2.2.2.2.2.2.2.2.2.2.2.2.2.2.2.1 ft_L_law_10.2.2.2.2.2.2.2.2.2.2.2.2.2.2.2.2.2.2.2.2.2.2.2.2.2.2.2.2.2.2.2.2.2.2.1 ft_L_law_10.2.2.2.2.2.2.2.2.2.2.2.2.2.2.2.2.2.2.2.2.2.2.2.2.2.2.2.2.2.2.2.2.2.2.2.1 ft_L_law_10.2.2.2.2.2.2.2.2.2.2.2.2.2.2.2.2.2.2.2.2.2.2.2.2.2.2.2.2.2.2.2.2.2.2.2.2.1 rfl (by omega) hLn ?_
  refine L_call ft_L_law_10.2.2.2.2.2.2.2.2.2.2.2.2.2.2.2.2.2.2.2.2.2.2.2.2.2.2.2.2.2.2.2.2.2.2.2.2.2.1 (by decide) (show mtab 148 = MX7_sign from rfl) rfl o1 (Nat.le_of_ble_eq_true rfl) (M_sign (by decide) hI hR1 (fun h2 hR2 hk2 => ?_))
  refine L_eq ft_L_law_10.2.2.2.2.2.2.2.2.2.2.2.2.2.2.2.2.2.2.2.2.2.2.2.2.2.2.2.2.2.2.2.2.2.2.2.2.2.2.1 rfl ?_
  exact nx h2 _ (LI_next (hI) hX1 hk2 hR2)
set_option maxRecDepth 10000 in
theorem L_degree (hLn : Ln ≤ 2560) (hi : i + 4 < Ln) (hL : LI h G B S) (nx : ∀ h' S', LI h' G B S' → MW G ML_law (ZL b Ln xs (gB G)) 1006 (LL b B i) [] h' al) : MW G ML_law (ZL b Ln xs (gB G)) 659 (LL b B i) [] h al := by
  obtain ⟨hI, hX, hR⟩ := hL
  refine L_a1 ft_L_law_11.2.1 ?_
  refine L_arg 1 ft_L_law_11.2.2.1 ft_L_law_11.2.2.2.1 ft_L_law_11.2.2.2.2.1 ft_L_law_11.2.2.2.2.2.1 ft_L_law_11.2.2.2.2.2.2.1 rfl (by omega) hLn ?_
  refine L_arg 2 ft_L_law_11.2.2.2.2.2.2.2.1 ft_L_law_11.2.2.2.2.2.2.2.2.1 ft_L_law_11.2.2.2.2.2.2.2.2.2.1 ft_L_law_11.2.2.2.2.2.2.2.2.2.2.1 ft_L_law_11.2.2.2.2.2.2.2.2.2.2.2.1 rfl (by omega) hLn ?_
  refine L_call ft_L_law_11.2.2.2.2.2.2.2.2.2.2.2.2.1 (by decide) (show mtab 92 = MX6_degree from rfl) rfl hX.1 (Nat.le_of_ble_eq_true rfl) (X_degree (by decide) hI hX (fun h1 hX1 hk1 => ?_))
  have hR1 := MR_eq (eqO_of hk1 (by omega)) hR
  obtain ⟨fs, o1⟩ := MR_o hR1
  refine L_a2 ft_L_law_11.2.2.2.2.2.2.2.2.2.2.2.2.2.1 ?_
  refine L_arg 1 ft_L_law_11.2.2.2.2.2.2.2.2.2.2.2.2.2.2.1 ft_L_law_11.2.2.2.2.2.2.2.2.2.2.2.2.2.2.2.1 ft_L_law_11.2.2.2.2.2.2.2.2.2.2.2.2.2.2.2.2.1 ft_L_law_11.2.2.2.2.2.2.2.2.2.2.2.2.2.2.2.2.2.1 ft_L_law_11.2.2.2.2.2.2.2.2.2.2.2.2.2.2.2.2.2.2.1 rfl (by omega) hLn ?_
  refine L_arg 2 ft_L_law_11.2.2.2.2.2.2.2.2.2.2.2.2.2.2.2.2.2.2.2.1 ft_L_law_11.2.2.2.2.2.2.2.2.2.2.2.2.2.2.2.2.2.2.2.2.1 ft_L_law_11.2.2.2.2.2.2.2.2.2.2.2.2.2.2.2.2.2.2.2.2.2.1 ft_L_law_11.2.2.2.2.2.2.2.2.2.2.2.2.2.2.2.2.2.2.2.2.2.2.1 ft_L_law_11.2.2.2.2.2.2.2.2.2.2.2.2.2.2.2.2.2.2.2.2.2.2.2.1 rfl (by omega) hLn ?_
  refine L_call ft_L_law_11.2.2.2.2.2.2.2.2.2.2.2.2.2.2.2.2.2.2.2.2.2.2.2.2.1 (by decide) (show mtab 150 = MX7_degree from rfl) rfl o1 (Nat.le_of_ble_eq_true rfl) (M_degree (by decide) hI hR1 (fun h2 hR2 hk2 => ?_))
  refine L_eq ft_L_law_11.2.2.2.2.2.2.2.2.2.2.2.2.2.2.2.2.2.2.2.2.2.2.2.2.2.1 rfl ?_
  exact nx h2 _ (LI_next (hI) hX1 hk2 hR2)
set_option maxRecDepth 10000 in
theorem L_rulings (hLn : Ln ≤ 2560) (hi : i + 4 < Ln) (hL : LI h G B S) (nx : ∀ h' S', LI h' G B S' → MW G ML_law (ZL b Ln xs (gB G)) 1006 (LL b B i) [] h' al) : MW G ML_law (ZL b Ln xs (gB G)) 692 (LL b B i) [] h al := by
  obtain ⟨hI, hX, hR⟩ := hL
  refine L_a1 ft_L_law_11.2.2.2.2.2.2.2.2.2.2.2.2.2.2.2.2.2.2.2.2.2.2.2.2.2.2.2.2.1 ?_
  refine L_arg 1 ft_L_law_11.2.2.2.2.2.2.2.2.2.2.2.2.2.2.2.2.2.2.2.2.2.2.2.2.2.2.2.2.2.1 ft_L_law_11.2.2.2.2.2.2.2.2.2.2.2.2.2.2.2.2.2.2.2.2.2.2.2.2.2.2.2.2.2.2.1 ft_L_law_11.2.2.2.2.2.2.2.2.2.2.2.2.2.2.2.2.2.2.2.2.2.2.2.2.2.2.2.2.2.2.2.1 ft_L_law_11.2.2.2.2.2.2.2.2.2.2.2.2.2.2.2.2.2.2.2.2.2.2.2.2.2.2.2.2.2.2.2.2.1 ft_L_law_11.2.2.2.2.2.2.2.2.2.2.2.2.2.2.2.2.2.2.2.2.2.2.2.2.2.2.2.2.2.2.2.2.2.1 rfl (by omega) hLn ?_
  refine L_arg 2 ft_L_law_11.2.2.2.2.2.2.2.2.2.2.2.2.2.2.2.2.2.2.2.2.2.2.2.2.2.2.2.2.2.2.2.2.2.2.1 ft_L_law_11.2.2.2.2.2.2.2.2.2.2.2.2.2.2.2.2.2.2.2.2.2.2.2.2.2.2.2.2.2.2.2.2.2.2.2.1 ft_L_law_11.2.2.2.2.2.2.2.2.2.2.2.2.2.2.2.2.2.2.2.2.2.2.2.2.2.2.2.2.2.2.2.2.2.2.2.2.1 ft_L_law_11.2.2.2.2.2.2.2.2.2.2.2.2.2.2.2.2.2.2.2.2.2.2.2.2.2.2.2.2.2.2.2.2.2.2.2.2.2.1 ft_L_law_11.2.2.2.2.2.2.2.2.2.2.2.2.2.2.2.2.2.2.2.2.2.2.2.2.2.2.2.2.2.2.2.2.2.2.2.2.2.2.1 rfl (by omega) hLn ?_
  refine L_arg 3 ft_L_law_11.2.2.2.2.2.2.2.2.2.2.2.2.2.2.2.2.2.2.2.2.2.2.2.2.2.2.2.2.2.2.2.2.2.2.2.2.2.2.2 ft_L_law_12.1 ft_L_law_12.2.1 ft_L_law_12.2.2.1 ft_L_law_12.2.2.2.1 rfl (by omega) hLn ?_
  refine L_call ft_L_law_12.2.2.2.2.1 (by decide) (show mtab 93 = MX6_rulings from rfl) rfl hX.1 (Nat.le_of_ble_eq_true rfl) (X_rulings (by decide) hI hX (fun h1 hX1 hk1 => ?_))
  have hR1 := MR_eq (eqO_of hk1 (by omega)) hR
  obtain ⟨fs, o1⟩ := MR_o hR1
  refine L_a2 ft_L_law_12.2.2.2.2.2.1 ?_
  refine L_arg 1 ft_L_law_12.2.2.2.2.2.2.1 ft_L_law_12.2.2.2.2.2.2.2.1 ft_L_law_12.2.2.2.2.2.2.2.2.1 ft_L_law_12.2.2.2.2.2.2.2.2.2.1 ft_L_law_12.2.2.2.2.2.2.2.2.2.2.1 rfl (by omega) hLn ?_
  refine L_arg 2 ft_L_law_12.2.2.2.2.2.2.2.2.2.2.2.1 ft_L_law_12.2.2.2.2.2.2.2.2.2.2.2.2.1 ft_L_law_12.2.2.2.2.2.2.2.2.2.2.2.2.2.1 ft_L_law_12.2.2.2.2.2.2.2.2.2.2.2.2.2.2.1 ft_L_law_12.2.2.2.2.2.2.2.2.2.2.2.2.2.2.2.1 rfl (by omega) hLn ?_
  refine L_arg 3 ft_L_law_12.2.2.2.2.2.2.2.2.2.2.2.2.2.2.2.2.1 ft_L_law_12.2.2.2.2.2.2.2.2.2.2.2.2.2.2.2.2.2.1 ft_L_law_12.2.2.2.2.2.2.2.2.2.2.2.2.2.2.2.2.2.2.1 ft_L_law_12.2.2.2.2.2.2.2.2.2.2.2.2.2.2.2.2.2.2.2.1 ft_L_law_12.2.2.2.2.2.2.2.2.2.2.2.2.2.2.2.2.2.2.2.2.1 rfl (by omega) hLn ?_
  refine L_call ft_L_law_12.2.2.2.2.2.2.2.2.2.2.2.2.2.2.2.2.2.2.2.2.2.1 (by decide) (show mtab 157 = MX7_rulings from rfl) rfl o1 (Nat.le_of_ble_eq_true rfl) (M_rulings (by decide) hI hR1 (fun h2 hR2 hk2 => ?_))
  refine L_eq ft_L_law_12.2.2.2.2.2.2.2.2.2.2.2.2.2.2.2.2.2.2.2.2.2.2.1 rfl ?_
  exact nx h2 _ (LI_next (hI) hX1 hk2 hR2)
set_option maxRecDepth 10000 in
theorem L_first (hLn : Ln ≤ 2560) (hi : i + 4 < Ln) (hL : LI h G B S) (nx : ∀ h' S', LI h' G B S' → MW G ML_law (ZL b Ln xs (gB G)) 1006 (LL b B i) [] h' al) : MW G ML_law (ZL b Ln xs (gB G)) 735 (LL b B i) [] h al := by
  obtain ⟨hI, hX, hR⟩ := hL
  refine L_a1 ft_L_law_12.2.2.2.2.2.2.2.2.2.2.2.2.2.2.2.2.2.2.2.2.2.2.2.2.2.1 ?_
  refine L_arg 1 ft_L_law_12.2.2.2.2.2.2.2.2.2.2.2.2.2.2.2.2.2.2.2.2.2.2.2.2.2.2.1 ft_L_law_12.2.2.2.2.2.2.2.2.2.2.2.2.2.2.2.2.2.2.2.2.2.2.2.2.2.2.2.1 ft_L_law_12.2.2.2.2.2.2.2.2.2.2.2.2.2.2.2.2.2.2.2.2.2.2.2.2.2.2.2.2.1 ft_L_law_12.2.2.2.2.2.2.2.2.2.2.2.2.2.2.2.2.2.2.2.2.2.2.2.2.2.2.2.2.2.1 ft_L_law_12.2.2.2.2.2.2.2.2.2.2.2.2.2.2.2.2.2.2.2.2.2.2.2.2.2.2.2.2.2.2.1 rfl (by omega) hLn ?_
  refine L_arg 2 ft_L_law_12.2.2.2.2.2.2.2.2.2.2.2.2.2.2.2.2.2.2.2.2.2.2.2.2.2.2.2.2.2.2.2.1 ft_L_law_12.2.2.2.2.2.2.2.2.2.2.2.2.2.2.2.2.2.2.2.2.2.2.2.2.2.2.2.2.2.2.2.2.1 ft_L_law_12.2.2.2.2.2.2.2.2.2.2.2.2.2.2.2.2.2.2.2.2.2.2.2.2.2.2.2.2.2.2.2.2.2.1 ft_L_law_12.2.2.2.2.2.2.2.2.2.2.2.2.2.2.2.2.2.2.2.2.2.2.2.2.2.2.2.2.2.2.2.2.2.2.1 ft_L_law_12.2.2.2.2.2.2.2.2.2.2.2.2.2.2.2.2.2.2.2.2.2.2.2.2.2.2.2.2.2.2.2.2.2.2.2.1 rfl (by omega) hLn ?_
  refine L_arg 3 ft_L_law_12.2.2.2.2.2.2.2.2.2.2.2.2.2.2.2.2.2.2.2.2.2.2.2.2.2.2.2.2.2.2.2.2.2.2.2.2.1 ft_L_law_12.2.2.2.2.2.2.2.2.2.2.2.2.2.2.2.2.2.2.2.2.2.2.2.2.2.2.2.2.2.2.2.2.2.2.2.2.2.1 ft_L_law_12.2.2.2.2.2.2.2.2.2.2.2.2.2.2.2.2.2.2.2.2.2.2.2.2.2.2.2.2.2.2.2.2.2.2.2.2.2.2.1 ft_L_law_12.2.2.2.2.2.2.2.2.2.2.2.2.2.2.2.2.2.2.2.2.2.2.2.2.2.2.2.2.2.2.2.2.2.2.2.2.2.2.2 ft_L_law_13.1 rfl (by omega) hLn ?_
  refine L_call ft_L_law_13.2.1 (by decide) (show mtab 94 = MX6_first from rfl) rfl hX.1 (Nat.le_of_ble_eq_true rfl) (X_first (by decide) hI hX (fun h1 hX1 hk1 => ?_))
  have hR1 := MR_eq (eqO_of hk1 (by omega)) hR
  obtain ⟨fs, o1⟩ := MR_o hR1
  refine L_a2 ft_L_law_13.2.2.1 ?_
  refine L_arg 1 ft_L_law_13.2.2.2.1 ft_L_law_13.2.2.2.2.1 ft_L_law_13.2.2.2.2.2.1 ft_L_law_13.2.2.2.2.2.2.1 ft_L_law_13.2.2.2.2.2.2.2.1 rfl (by omega) hLn ?_
  refine L_arg 2 ft_L_law_13.2.2.2.2.2.2.2.2.1 ft_L_law_13.2.2.2.2.2.2.2.2.2.1 ft_L_law_13.2.2.2.2.2.2.2.2.2.2.1 ft_L_law_13.2.2.2.2.2.2.2.2.2.2.2.1 ft_L_law_13.2.2.2.2.2.2.2.2.2.2.2.2.1 rfl (by omega) hLn ?_
  refine L_arg 3 ft_L_law_13.2.2.2.2.2.2.2.2.2.2.2.2.2.1 ft_L_law_13.2.2.2.2.2.2.2.2.2.2.2.2.2.2.1 ft_L_law_13.2.2.2.2.2.2.2.2.2.2.2.2.2.2.2.1 ft_L_law_13.2.2.2.2.2.2.2.2.2.2.2.2.2.2.2.2.1 ft_L_law_13.2.2.2.2.2.2.2.2.2.2.2.2.2.2.2.2.2.1 rfl (by omega) hLn ?_
  refine L_call ft_L_law_13.2.2.2.2.2.2.2.2.2.2.2.2.2.2.2.2.2.2.1 (by decide) (show mtab 158 = MX7_first from rfl) rfl o1 (Nat.le_of_ble_eq_true rfl) (M_first (by decide) hI hR1 (fun h2 hR2 hk2 => ?_))
  refine L_eq ft_L_law_13.2.2.2.2.2.2.2.2.2.2.2.2.2.2.2.2.2.2.2.1 rfl ?_
  exact nx h2 _ (LI_next (hI) hX1 hk2 hR2)
set_option maxRecDepth 10000 in
theorem L_move (hLn : Ln ≤ 2560) (hi : i + 4 < Ln) (hL : LI h G B S) (nx : ∀ h' S', LI h' G B S' → MW G ML_law (ZL b Ln xs (gB G)) 1006 (LL b B i) [] h' al) : MW G ML_law (ZL b Ln xs (gB G)) 778 (LL b B i) [] h al := by
  obtain ⟨hI, hX, hR⟩ := hL
  refine L_a1 ft_L_law_13.2.2.2.2.2.2.2.2.2.2.2.2.2.2.2.2.2.2.2.2.2.2.1 ?_
  refine L_arg 1 ft_L_law_13.2.2.2.2.2.2.2.2.2.2.2.2.2.2.2.2.2.2.2.2.2.2.2.1 ft_L_law_13.2.2.2.2.2.2.2.2.2.2.2.2.2.2.2.2.2.2.2.2.2.2.2.2.1 ft_L_law_13.2.2.2.2.2.2.2.2.2.2.2.2.2.2.2.2.2.2.2.2.2.2.2.2.2.1 ft_L_law_13.2.2.2.2.2.2.2.2.2.2.2.2.2.2.2.2.2.2.2.2.2.2.2.2.2.2.1 ft_L_law_13.2.2.2.2.2.2.2.2.2.2.2.2.2.2.2.2.2.2.2.2.2.2.2.2.2.2.2.1 rfl (by omega) hLn ?_
  refine L_arg 2 ft_L_law_13.2.2.2.2.2.2.2.2.2.2.2.2.2.2.2.2.2.2.2.2.2.2.2.2.2.2.2.2.1 ft_L_law_13.2.2.2.2.2.2.2.2.2.2.2.2.2.2.2.2.2.2.2.2.2.2.2.2.2.2.2.2.2.1 ft_L_law_13.2.2.2.2.2.2.2.2.2.2.2.2.2.2.2.2.2.2.2.2.2.2.2.2.2.2.2.2.2.2.1 ft_L_law_13.2.2.2.2.2.2.2.2.2.2.2.2.2.2.2.2.2.2.2.2.2.2.2.2.2.2.2.2.2.2.2.1 ft_L_law_13.2.2.2.2.2.2.2.2.2.2.2.2.2.2.2.2.2.2.2.2.2.2.2.2.2.2.2.2.2.2.2.2.1 rfl (by omega) hLn ?_
  refine L_arg 3 ft_L_law_13.2.2.2.2.2.2.2.2.2.2.2.2.2.2.2.2.2.2.2.2.2.2.2.2.2.2.2.2.2.2.2.2.2.1 ft_L_law_13.2.2.2.2.2.2.2.2.2.2.2.2.2.2.2.2.2.2.2.2.2.2.2.2.2.2.2.2.2.2.2.2.2.2.1 ft_L_law_13.2.2.2.2.2.2.2.2.2.2.2.2.2.2.2.2.2.2.2.2.2.2.2.2.2.2.2.2.2.2.2.2.2.2.2.1 ft_L_law_13.2.2.2.2.2.2.2.2.2.2.2.2.2.2.2.2.2.2.2.2.2.2.2.2.2.2.2.2.2.2.2.2.2.2.2.2.1 ft_L_law_13.2.2.2.2.2.2.2.2.2.2.2.2.2.2.2.2.2.2.2.2.2.2.2.2.2.2.2.2.2.2.2.2.2.2.2.2.2.1 rfl (by omega) hLn ?_
  refine L_call ft_L_law_13.2.2.2.2.2.2.2.2.2.2.2.2.2.2.2.2.2.2.2.2.2.2.2.2.2.2.2.2.2.2.2.2.2.2.2.2.2.2.1 (by decide) (show mtab 95 = MX6_move from rfl) rfl hX.1 (Nat.le_of_ble_eq_true rfl) (X_move (by decide) hI hX (fun h1 hX1 hk1 => ?_))
  have hR1 := MR_eq (eqO_of hk1 (by omega)) hR
  obtain ⟨fs, o1⟩ := MR_o hR1
  refine L_a2 ft_L_law_13.2.2.2.2.2.2.2.2.2.2.2.2.2.2.2.2.2.2.2.2.2.2.2.2.2.2.2.2.2.2.2.2.2.2.2.2.2.2.2 ?_
  refine L_arg 1 ft_L_law_14.1 ft_L_law_14.2.1 ft_L_law_14.2.2.1 ft_L_law_14.2.2.2.1 ft_L_law_14.2.2.2.2.1 rfl (by omega) hLn ?_
  refine L_arg 2 ft_L_law_14.2.2.2.2.2.1 ft_L_law_14.2.2.2.2.2.2.1 ft_L_law_14.2.2.2.2.2.2.2.1 ft_L_law_14.2.2.2.2.2.2.2.2.1 ft_L_law_14.2.2.2.2.2.2.2.2.2.1 rfl (by omega) hLn ?_
  refine L_arg 3 ft_L_law_14.2.2.2.2.2.2.2.2.2.2.1 ft_L_law_14.2.2.2.2.2.2.2.2.2.2.2.1 ft_L_law_14.2.2.2.2.2.2.2.2.2.2.2.2.1 ft_L_law_14.2.2.2.2.2.2.2.2.2.2.2.2.2.1 ft_L_law_14.2.2.2.2.2.2.2.2.2.2.2.2.2.2.1 rfl (by omega) hLn ?_
  refine L_call ft_L_law_14.2.2.2.2.2.2.2.2.2.2.2.2.2.2.2.1 (by decide) (show mtab 168 = MX7_move from rfl) rfl o1 (Nat.le_of_ble_eq_true rfl) (M_move (by decide) hI hR1 (fun h2 hR2 hk2 => ?_))
  refine L_eq ft_L_law_14.2.2.2.2.2.2.2.2.2.2.2.2.2.2.2.2.1 rfl ?_
  exact nx h2 _ (LI_next (I_move hI) hX1 hk2 hR2)
set_option maxRecDepth 10000 in
theorem L_add (hLn : Ln ≤ 2560) (hi : i + 4 < Ln) (hL : LI h G B S) (nx : ∀ h' S', LI h' G B S' → MW G ML_law (ZL b Ln xs (gB G)) 1006 (LL b B i) [] h' al) : MW G ML_law (ZL b Ln xs (gB G)) 821 (LL b B i) [] h al := by
  obtain ⟨hI, hX, hR⟩ := hL
  refine L_a1 ft_L_law_14.2.2.2.2.2.2.2.2.2.2.2.2.2.2.2.2.2.2.2.1 ?_
  refine L_arg 1 ft_L_law_14.2.2.2.2.2.2.2.2.2.2.2.2.2.2.2.2.2.2.2.2.1 ft_L_law_14.2.2.2.2.2.2.2.2.2.2.2.2.2.2.2.2.2.2.2.2.2.1 ft_L_law_14.2.2.2.2.2.2.2.2.2.2.2.2.2.2.2.2.2.2.2.2.2.2.1 ft_L_law_14.2.2.2.2.2.2.2.2.2.2.2.2.2.2.2.2.2.2.2.2.2.2.2.1 ft_L_law_14.2.2.2.2.2.2.2.2.2.2.2.2.2.2.2.2.2.2.2.2.2.2.2.2.1 rfl (by omega) hLn ?_
  refine L_arg 2 ft_L_law_14.2.2.2.2.2.2.2.2.2.2.2.2.2.2.2.2.2.2.2.2.2.2.2.2.2.1 ft_L_law_14.2.2.2.2.2.2.2.2.2.2.2.2.2.2.2.2.2.2.2.2.2.2.2.2.2.2.1 ft_L_law_14.2.2.2.2.2.2.2.2.2.2.2.2.2.2.2.2.2.2.2.2.2.2.2.2.2.2.2.1 ft_L_law_14.2.2.2.2.2.2.2.2.2.2.2.2.2.2.2.2.2.2.2.2.2.2.2.2.2.2.2.2.1 ft_L_law_14.2.2.2.2.2.2.2.2.2.2.2.2.2.2.2.2.2.2.2.2.2.2.2.2.2.2.2.2.2.1 rfl (by omega) hLn ?_
  refine L_arg 3 ft_L_law_14.2.2.2.2.2.2.2.2.2.2.2.2.2.2.2.2.2.2.2.2.2.2.2.2.2.2.2.2.2.2.1 ft_L_law_14.2.2.2.2.2.2.2.2.2.2.2.2.2.2.2.2.2.2.2.2.2.2.2.2.2.2.2.2.2.2.2.1 ft_L_law_14.2.2.2.2.2.2.2.2.2.2.2.2.2.2.2.2.2.2.2.2.2.2.2.2.2.2.2.2.2.2.2.2.1 ft_L_law_14.2.2.2.2.2.2.2.2.2.2.2.2.2.2.2.2.2.2.2.2.2.2.2.2.2.2.2.2.2.2.2.2.2.1 ft_L_law_14.2.2.2.2.2.2.2.2.2.2.2.2.2.2.2.2.2.2.2.2.2.2.2.2.2.2.2.2.2.2.2.2.2.2.1 rfl (by omega) hLn ?_
  refine L_arg 4 ft_L_law_14.2.2.2.2.2.2.2.2.2.2.2.2.2.2.2.2.2.2.2.2.2.2.2.2.2.2.2.2.2.2.2.2.2.2.2.1 ft_L_law_14.2.2.2.2.2.2.2.2.2.2.2.2.2.2.2.2.2.2.2.2.2.2.2.2.2.2.2.2.2.2.2.2.2.2.2.2.1 ft_L_law_14.2.2.2.2.2.2.2.2.2.2.2.2.2.2.2.2.2.2.2.2.2.2.2.2.2.2.2.2.2.2.2.2.2.2.2.2.2.1 ft_L_law_14.2.2.2.2.2.2.2.2.2.2.2.2.2.2.2.2.2.2.2.2.2.2.2.2.2.2.2.2.2.2.2.2.2.2.2.2.2.2.1 ft_L_law_14.2.2.2.2.2.2.2.2.2.2.2.2.2.2.2.2.2.2.2.2.2.2.2.2.2.2.2.2.2.2.2.2.2.2.2.2.2.2.2 rfl (by omega) hLn ?_
  refine L_call ft_L_law_15.1 (by decide) (show mtab 96 = MX6_add from rfl) rfl hX.1 (Nat.le_of_ble_eq_true rfl) (X_add (by decide) hI hX (fun h1 hX1 hk1 => ?_))
  have hR1 := MR_eq (eqO_of hk1 (by omega)) hR
  obtain ⟨fs, o1⟩ := MR_o hR1
  refine L_a2 ft_L_law_15.2.1 ?_
  refine L_arg 1 ft_L_law_15.2.2.1 ft_L_law_15.2.2.2.1 ft_L_law_15.2.2.2.2.1 ft_L_law_15.2.2.2.2.2.1 ft_L_law_15.2.2.2.2.2.2.1 rfl (by omega) hLn ?_
  refine L_arg 2 ft_L_law_15.2.2.2.2.2.2.2.1 ft_L_law_15.2.2.2.2.2.2.2.2.1 ft_L_law_15.2.2.2.2.2.2.2.2.2.1 ft_L_law_15.2.2.2.2.2.2.2.2.2.2.1 ft_L_law_15.2.2.2.2.2.2.2.2.2.2.2.1 rfl (by omega) hLn ?_
  refine L_arg 3 ft_L_law_15.2.2.2.2.2.2.2.2.2.2.2.2.1 ft_L_law_15.2.2.2.2.2.2.2.2.2.2.2.2.2.1 ft_L_law_15.2.2.2.2.2.2.2.2.2.2.2.2.2.2.1 ft_L_law_15.2.2.2.2.2.2.2.2.2.2.2.2.2.2.2.1 ft_L_law_15.2.2.2.2.2.2.2.2.2.2.2.2.2.2.2.2.1 rfl (by omega) hLn ?_
  refine L_arg 4 ft_L_law_15.2.2.2.2.2.2.2.2.2.2.2.2.2.2.2.2.2.1 ft_L_law_15.2.2.2.2.2.2.2.2.2.2.2.2.2.2.2.2.2.2.1 ft_L_law_15.2.2.2.2.2.2.2.2.2.2.2.2.2.2.2.2.2.2.2.1 ft_L_law_15.2.2.2.2.2.2.2.2.2.2.2.2.2.2.2.2.2.2.2.2.1 ft_L_law_15.2.2.2.2.2.2.2.2.2.2.2.2.2.2.2.2.2.2.2.2.2.1 rfl (by omega) hLn ?_
  refine L_call ft_L_law_15.2.2.2.2.2.2.2.2.2.2.2.2.2.2.2.2.2.2.2.2.2.2.1 (by decide) (show mtab 169 = MX7_add from rfl) rfl o1 (Nat.le_of_ble_eq_true rfl) (M_add (by decide) hI hR1 (fun h2 hR2 hk2 => ?_))
  refine L_eq ft_L_law_15.2.2.2.2.2.2.2.2.2.2.2.2.2.2.2.2.2.2.2.2.2.2.2.1 rfl ?_
  exact nx h2 _ (LI_next (I_adds hI) hX1 hk2 hR2)
set_option maxRecDepth 10000 in
theorem L_push (hLn : Ln ≤ 2560) (hi : i + 4 < Ln) (hL : LI h G B S) (nx : ∀ h' S', LI h' G B S' → MW G ML_law (ZL b Ln xs (gB G)) 1006 (LL b B i) [] h' al) : MW G ML_law (ZL b Ln xs (gB G)) 874 (LL b B i) [] h al := by
  obtain ⟨hI, hX, hR⟩ := hL
  refine L_a1 ft_L_law_15.2.2.2.2.2.2.2.2.2.2.2.2.2.2.2.2.2.2.2.2.2.2.2.2.2.2.1 ?_
  refine L_arg 1 ft_L_law_15.2.2.2.2.2.2.2.2.2.2.2.2.2.2.2.2.2.2.2.2.2.2.2.2.2.2.2.1 ft_L_law_15.2.2.2.2.2.2.2.2.2.2.2.2.2.2.2.2.2.2.2.2.2.2.2.2.2.2.2.2.1 ft_L_law_15.2.2.2.2.2.2.2.2.2.2.2.2.2.2.2.2.2.2.2.2.2.2.2.2.2.2.2.2.2.1 ft_L_law_15.2.2.2.2.2.2.2.2.2.2.2.2.2.2.2.2.2.2.2.2.2.2.2.2.2.2.2.2.2.2.1 ft_L_law_15.2.2.2.2.2.2.2.2.2.2.2.2.2.2.2.2.2.2.2.2.2.2.2.2.2.2.2.2.2.2.2.1 rfl (by omega) hLn ?_
  refine L_arg 2 ft_L_law_15.2.2.2.2.2.2.2.2.2.2.2.2.2.2.2.2.2.2.2.2.2.2.2.2.2.2.2.2.2.2.2.2.1 ft_L_law_15.2.2.2.2.2.2.2.2.2.2.2.2.2.2.2.2.2.2.2.2.2.2.2.2.2.2.2.2.2.2.2.2.2.1 ft_L_law_15.2.2.2.2.2.2.2.2.2.2.2.2.2.2.2.2.2.2.2.2.2.2.2.2.2.2.2.2.2.2.2.2.2.2.1 ft_L_law_15.2.2.2.2.2.2.2.2.2.2.2.2.2.2.2.2.2.2.2.2.2.2.2.2.2.2.2.2.2.2.2.2.2.2.2.1 ft_L_law_15.2.2.2.2.2.2.2.2.2.2.2.2.2.2.2.2.2.2.2.2.2.2.2.2.2.2.2.2.2.2.2.2.2.2.2.2.1 rfl (by omega) hLn ?_
  refine L_arg 3 ft_L_law_15.2.2.2.2.2.2.2.2.2.2.2.2.2.2.2.2.2.2.2.2.2.2.2.2.2.2.2.2.2.2.2.2.2.2.2.2.2.1 ft_L_law_15.2.2.2.2.2.2.2.2.2.2.2.2.2.2.2.2.2.2.2.2.2.2.2.2.2.2.2.2.2.2.2.2.2.2.2.2.2.2.1 ft_L_law_15.2.2.2.2.2.2.2.2.2.2.2.2.2.2.2.2.2.2.2.2.2.2.2.2.2.2.2.2.2.2.2.2.2.2.2.2.2.2.2 ft_L_law_16.1 ft_L_law_16.2.1 rfl (by omega) hLn ?_
  refine L_call ft_L_law_16.2.2.1 (by decide) (show mtab 97 = MX6_push from rfl) rfl hX.1 (Nat.le_of_ble_eq_true rfl) (X_push (by decide) hI hX (fun h1 hX1 hk1 => ?_))
  have hR1 := MR_eq (eqO_of hk1 (by omega)) hR
  obtain ⟨fs, o1⟩ := MR_o hR1
  refine L_a2 ft_L_law_16.2.2.2.1 ?_
  refine L_arg 1 ft_L_law_16.2.2.2.2.1 ft_L_law_16.2.2.2.2.2.1 ft_L_law_16.2.2.2.2.2.2.1 ft_L_law_16.2.2.2.2.2.2.2.1 ft_L_law_16.2.2.2.2.2.2.2.2.1 rfl (by omega) hLn ?_
  refine L_arg 2 ft_L_law_16.2.2.2.2.2.2.2.2.2.1 ft_L_law_16.2.2.2.2.2.2.2.2.2.2.1 ft_L_law_16.2.2.2.2.2.2.2.2.2.2.2.1 ft_L_law_16.2.2.2.2.2.2.2.2.2.2.2.2.1 ft_L_law_16.2.2.2.2.2.2.2.2.2.2.2.2.2.1 rfl (by omega) hLn ?_
  refine L_arg 3 ft_L_law_16.2.2.2.2.2.2.2.2.2.2.2.2.2.2.1 ft_L_law_16.2.2.2.2.2.2.2.2.2.2.2.2.2.2.2.1 ft_L_law_16.2.2.2.2.2.2.2.2.2.2.2.2.2.2.2.2.1 ft_L_law_16.2.2.2.2.2.2.2.2.2.2.2.2.2.2.2.2.2.1 ft_L_law_16.2.2.2.2.2.2.2.2.2.2.2.2.2.2.2.2.2.2.1 rfl (by omega) hLn ?_
  refine L_call ft_L_law_16.2.2.2.2.2.2.2.2.2.2.2.2.2.2.2.2.2.2.2.1 (by decide) (show mtab 170 = MX7_push from rfl) rfl o1 (Nat.le_of_ble_eq_true rfl) (M_push (by decide) hI hR1 (fun h2 hR2 hk2 => ?_))
  refine L_eq ft_L_law_16.2.2.2.2.2.2.2.2.2.2.2.2.2.2.2.2.2.2.2.2.1 rfl ?_
  exact nx h2 _ (LI_next (I_push hI) hX1 hk2 hR2)
set_option maxRecDepth 10000 in
theorem L_join (hLn : Ln ≤ 2560) (hi : i + 4 < Ln) (hL : LI h G B S) (nx : ∀ h' S', LI h' G B S' → MW G ML_law (ZL b Ln xs (gB G)) 1006 (LL b B i) [] h' al) : MW G ML_law (ZL b Ln xs (gB G)) 917 (LL b B i) [] h al := by
  obtain ⟨hI, hX, hR⟩ := hL
  refine L_a1 ft_L_law_16.2.2.2.2.2.2.2.2.2.2.2.2.2.2.2.2.2.2.2.2.2.2.2.1 ?_
  refine L_arg 1 ft_L_law_16.2.2.2.2.2.2.2.2.2.2.2.2.2.2.2.2.2.2.2.2.2.2.2.2.1 ft_L_law_16.2.2.2.2.2.2.2.2.2.2.2.2.2.2.2.2.2.2.2.2.2.2.2.2.2.1 ft_L_law_16.2.2.2.2.2.2.2.2.2.2.2.2.2.2.2.2.2.2.2.2.2.2.2.2.2.2.1 ft_L_law_16.2.2.2.2.2.2.2.2.2.2.2.2.2.2.2.2.2.2.2.2.2.2.2.2.2.2.2.1 ft_L_law_16.2.2.2.2.2.2.2.2.2.2.2.2.2.2.2.2.2.2.2.2.2.2.2.2.2.2.2.2.1 rfl (by omega) hLn ?_
  refine L_arg 2 ft_L_law_16.2.2.2.2.2.2.2.2.2.2.2.2.2.2.2.2.2.2.2.2.2.2.2.2.2.2.2.2.2.1 ft_L_law_16.2.2.2.2.2.2.2.2.2.2.2.2.2.2.2.2.2.2.2.2.2.2.2.2.2.2.2.2.2.2.1 ft_L_law_16.2.2.2.2.2.2.2.2.2.2.2.2.2.2.2.2.2.2.2.2.2.2.2.2.2.2.2.2.2.2.2.1 ft_L_law_16.2.2.2.2.2.2.2.2.2.2.2.2.2.2.2.2.2.2.2.2.2.2.2.2.2.2.2.2.2.2.2.2.1 ft_L_law_16.2.2.2.2.2.2.2.2.2.2.2.2.2.2.2.2.2.2.2.2.2.2.2.2.2.2.2.2.2.2.2.2.2.1 rfl (by omega) hLn ?_
  refine L_call ft_L_law_16.2.2.2.2.2.2.2.2.2.2.2.2.2.2.2.2.2.2.2.2.2.2.2.2.2.2.2.2.2.2.2.2.2.2.1 (by decide) (show mtab 98 = MX6_join from rfl) rfl hX.1 (Nat.le_of_ble_eq_true rfl) (X_join (by decide) hI hX (fun h1 hX1 hk1 => ?_))
  have hR1 := MR_eq (eqO_of hk1 (by omega)) hR
  obtain ⟨fs, o1⟩ := MR_o hR1
  refine L_a2 ft_L_law_16.2.2.2.2.2.2.2.2.2.2.2.2.2.2.2.2.2.2.2.2.2.2.2.2.2.2.2.2.2.2.2.2.2.2.2.1 ?_
  refine L_arg 1 ft_L_law_16.2.2.2.2.2.2.2.2.2.2.2.2.2.2.2.2.2.2.2.2.2.2.2.2.2.2.2.2.2.2.2.2.2.2.2.2.1 ft_L_law_16.2.2.2.2.2.2.2.2.2.2.2.2.2.2.2.2.2.2.2.2.2.2.2.2.2.2.2.2.2.2.2.2.2.2.2.2.2.1 ft_L_law_16.2.2.2.2.2.2.2.2.2.2.2.2.2.2.2.2.2.2.2.2.2.2.2.2.2.2.2.2.2.2.2.2.2.2.2.2.2.2.1 ft_L_law_16.2.2.2.2.2.2.2.2.2.2.2.2.2.2.2.2.2.2.2.2.2.2.2.2.2.2.2.2.2.2.2.2.2.2.2.2.2.2.2 ft_L_law_17.1 rfl (by omega) hLn ?_
  refine L_arg 2 ft_L_law_17.2.1 ft_L_law_17.2.2.1 ft_L_law_17.2.2.2.1 ft_L_law_17.2.2.2.2.1 ft_L_law_17.2.2.2.2.2.1 rfl (by omega) hLn ?_
  refine L_call ft_L_law_17.2.2.2.2.2.2.1 (by decide) (show mtab 171 = MX7_join from rfl) rfl o1 (Nat.le_of_ble_eq_true rfl) (M_join (by decide) hI hR1 (fun h2 hR2 hk2 => ?_))
  refine L_eq ft_L_law_17.2.2.2.2.2.2.2.1 rfl ?_
  exact nx h2 _ (LI_next (I_join hI) hX1 hk2 hR2)
set_option maxRecDepth 10000 in
theorem L_unlike (hLn : Ln ≤ 2560) (hi : i + 4 < Ln) (hL : LI h G B S) (nx : ∀ h' S', LI h' G B S' → MW G ML_law (ZL b Ln xs (gB G)) 1006 (LL b B i) [] h' al) : MW G ML_law (ZL b Ln xs (gB G)) 950 (LL b B i) [] h al := by
  obtain ⟨hI, hX, hR⟩ := hL
  refine L_a1 ft_L_law_17.2.2.2.2.2.2.2.2.2.2.1 ?_
  refine L_arg 1 ft_L_law_17.2.2.2.2.2.2.2.2.2.2.2.1 ft_L_law_17.2.2.2.2.2.2.2.2.2.2.2.2.1 ft_L_law_17.2.2.2.2.2.2.2.2.2.2.2.2.2.1 ft_L_law_17.2.2.2.2.2.2.2.2.2.2.2.2.2.2.1 ft_L_law_17.2.2.2.2.2.2.2.2.2.2.2.2.2.2.2.1 rfl (by omega) hLn ?_
  refine L_arg 2 ft_L_law_17.2.2.2.2.2.2.2.2.2.2.2.2.2.2.2.2.1 ft_L_law_17.2.2.2.2.2.2.2.2.2.2.2.2.2.2.2.2.2.1 ft_L_law_17.2.2.2.2.2.2.2.2.2.2.2.2.2.2.2.2.2.2.1 ft_L_law_17.2.2.2.2.2.2.2.2.2.2.2.2.2.2.2.2.2.2.2.1 ft_L_law_17.2.2.2.2.2.2.2.2.2.2.2.2.2.2.2.2.2.2.2.2.1 rfl (by omega) hLn ?_
  refine L_call ft_L_law_17.2.2.2.2.2.2.2.2.2.2.2.2.2.2.2.2.2.2.2.2.2.1 (by decide) (show mtab 99 = MX6_unlike from rfl) rfl hX.1 (Nat.le_of_ble_eq_true rfl) (X_unlike (by decide) hI hX (fun h1 hX1 hk1 => ?_))
  have hR1 := MR_eq (eqO_of hk1 (by omega)) hR
  obtain ⟨fs, o1⟩ := MR_o hR1
  refine L_a2 ft_L_law_17.2.2.2.2.2.2.2.2.2.2.2.2.2.2.2.2.2.2.2.2.2.2.1 ?_
  refine L_arg 1 ft_L_law_17.2.2.2.2.2.2.2.2.2.2.2.2.2.2.2.2.2.2.2.2.2.2.2.1 ft_L_law_17.2.2.2.2.2.2.2.2.2.2.2.2.2.2.2.2.2.2.2.2.2.2.2.2.1 ft_L_law_17.2.2.2.2.2.2.2.2.2.2.2.2.2.2.2.2.2.2.2.2.2.2.2.2.2.1 ft_L_law_17.2.2.2.2.2.2.2.2.2.2.2.2.2.2.2.2.2.2.2.2.2.2.2.2.2.2.1 ft_L_law_17.2.2.2.2.2.2.2.2.2.2.2.2.2.2.2.2.2.2.2.2.2.2.2.2.2.2.2.1 rfl (by omega) hLn ?_
  refine L_arg 2 ft_L_law_17.2.2.2.2.2.2.2.2.2.2.2.2.2.2.2.2.2.2.2.2.2.2.2.2.2.2.2.2.1 ft_L_law_17.2.2.2.2.2.2.2.2.2.2.2.2.2.2.2.2.2.2.2.2.2.2.2.2.2.2.2.2.2.1 ft_L_law_17.2.2.2.2.2.2.2.2.2.2.2.2.2.2.2.2.2.2.2.2.2.2.2.2.2.2.2.2.2.2.1 ft_L_law_17.2.2.2.2.2.2.2.2.2.2.2.2.2.2.2.2.2.2.2.2.2.2.2.2.2.2.2.2.2.2.2.1 ft_L_law_17.2.2.2.2.2.2.2.2.2.2.2.2.2.2.2.2.2.2.2.2.2.2.2.2.2.2.2.2.2.2.2.2.1 rfl (by omega) hLn ?_
  refine L_call ft_L_law_17.2.2.2.2.2.2.2.2.2.2.2.2.2.2.2.2.2.2.2.2.2.2.2.2.2.2.2.2.2.2.2.2.2.1 (by decide) (show mtab 172 = MX7_unlike from rfl) rfl o1 (Nat.le_of_ble_eq_true rfl) (M_unlike (by decide) hI hR1 (fun h2 hR2 hk2 => ?_))
  refine L_eq ft_L_law_17.2.2.2.2.2.2.2.2.2.2.2.2.2.2.2.2.2.2.2.2.2.2.2.2.2.2.2.2.2.2.2.2.2.2.1 rfl ?_
  exact nx h2 _ (LI_next (hI) hX1 hk2 hR2)
set_option maxRecDepth 10000 in
theorem L_count (hLn : Ln ≤ 2560) (hi : i + 4 < Ln) (hL : LI h G B S) (nx : ∀ h' S', LI h' G B S' → MW G ML_law (ZL b Ln xs (gB G)) 1006 (LL b B i) [] h' al) : MW G ML_law (ZL b Ln xs (gB G)) 983 (LL b B i) [] h al := by
  obtain ⟨hI, hX, hR⟩ := hL
  refine L_a1 ft_L_law_17.2.2.2.2.2.2.2.2.2.2.2.2.2.2.2.2.2.2.2.2.2.2.2.2.2.2.2.2.2.2.2.2.2.2.2.2.2.1 ?_
  refine L_arg 1 ft_L_law_17.2.2.2.2.2.2.2.2.2.2.2.2.2.2.2.2.2.2.2.2.2.2.2.2.2.2.2.2.2.2.2.2.2.2.2.2.2.2.1 ft_L_law_17.2.2.2.2.2.2.2.2.2.2.2.2.2.2.2.2.2.2.2.2.2.2.2.2.2.2.2.2.2.2.2.2.2.2.2.2.2.2.2 ft_L_law_18.1 ft_L_law_18.2.1 ft_L_law_18.2.2.1 rfl (by omega) hLn ?_
  refine L_call ft_L_law_18.2.2.2.1 (by decide) (show mtab 100 = MX6_count from rfl) rfl hX.1 (Nat.le_of_ble_eq_true rfl) (X_count hI hX (fun h1 hX1 hk1 => ?_))
  have hR1 := MR_eq (eqO_of hk1 (by omega)) hR
  obtain ⟨fs, o1⟩ := MR_o hR1
  refine L_a2 ft_L_law_18.2.2.2.2.1 ?_
  refine L_arg 1 ft_L_law_18.2.2.2.2.2.1 ft_L_law_18.2.2.2.2.2.2.1 ft_L_law_18.2.2.2.2.2.2.2.1 ft_L_law_18.2.2.2.2.2.2.2.2.1 ft_L_law_18.2.2.2.2.2.2.2.2.2.1 rfl (by omega) hLn ?_
  refine L_call ft_L_law_18.2.2.2.2.2.2.2.2.2.2.1 (by decide) (show mtab 173 = MX7_count from rfl) rfl o1 (Nat.le_of_ble_eq_true rfl) (M_count hR1 (fun h2 hR2 hk2 => ?_))
  refine L_eq ft_L_law_18.2.2.2.2.2.2.2.2.2.2.2.1 rfl ?_
  exact nx h2 _ (LI_next (hI) hX1 hk2 hR2)
set_option maxRecDepth 10000 in
theorem L_turn (hLn : Ln ≤ 2560) (hi : i + 4 < Ln) (hL : LI h G B S) (nx : ∀ h' S', LI h' G B S' → MW G ML_law (ZL b Ln xs (gB G)) 1006 (LL b B i) [] h' al) {q : Nat} (hq : q < 32) : MW G ML_law (ZL b Ln xs (gB G)) 32 (LL b B i) [.int (nI q)] h al := by
  have D := L_dec ft_L_law_0.2.2.2.2.2.2.2.2.2.2.2.2.2.2.2.2.2.2.2.2.2.1
  rcases (by omega : q = 0 ∨ q = 1 ∨ q = 2 ∨ q = 3 ∨ q = 4 ∨ q = 5 ∨ q = 6 ∨ q = 7 ∨ q = 8 ∨ q = 9 ∨ q = 10 ∨ q = 11 ∨ q = 12 ∨ q = 13 ∨ q = 14 ∨ q = 15 ∨ q = 16 ∨ q = 17 ∨ q = 18 ∨ q = 19 ∨ q = 20 ∨ q = 21 ∨ q = 22 ∨ q = 23 ∨ 24 ≤ q) with rfl | rfl | rfl | rfl | rfl | rfl | rfl | rfl | rfl | rfl | rfl | rfl | rfl | rfl | rfl | rfl | rfl | rfl | rfl | rfl | rfl | rfl | rfl | rfl | c
  · exact MW.tsw0 (tgt := 144) (off := 112) D (by decide) (by decide) rfl (by decide) (L_feed hLn hi hL nx)
  · exact MW.tsw0 (tgt := 197) (off := 165) D (by decide) (by decide) rfl (by decide) (L_end hLn hi hL nx)
  · exact MW.tsw0 (tgt := 220) (off := 188) D (by decide) (by decide) rfl (by decide) (L_front hLn hi hL nx)
  · exact MW.tsw0 (tgt := 233) (off := 201) D (by decide) (by decide) rfl (by decide) (L_fault hLn hi hL nx)
  · exact MW.tsw0 (tgt := 246) (off := 214) D (by decide) (by decide) rfl (by decide) (L_sheet hLn hi hL nx)
  · exact MW.tsw0 (tgt := 289) (off := 257) D (by decide) (by decide) rfl (by decide) (L_lay hLn hi hL nx)
  · exact MW.tsw0 (tgt := 332) (off := 300) D (by decide) (by decide) rfl (by decide) (L_draw hLn hi hL nx)
  · exact MW.tsw0 (tgt := 385) (off := 353) D (by decide) (by decide) rfl (by decide) (L_copy hLn hi hL nx)
  · exact MW.tsw0 (tgt := 408) (off := 376) D (by decide) (by decide) rfl (by decide) (L_drop hLn hi hL nx)
  · exact MW.tsw0 (tgt := 421) (off := 389) D (by decide) (by decide) rfl (by decide) (L_event hLn hi hL nx)
  · exact MW.tsw0 (tgt := 464) (off := 432) D (by decide) (by decide) rfl (by decide) (L_about hLn hi hL nx)
  · exact MW.tsw0 (tgt := 497) (off := 465) D (by decide) (by decide) rfl (by decide) (L_piece hLn hi hL nx)
  · exact MW.tsw0 (tgt := 540) (off := 508) D (by decide) (by decide) rfl (by decide) (L_number hLn hi hL nx)
  · exact MW.tsw0 (tgt := 583) (off := 551) D (by decide) (by decide) rfl (by decide) (L_link hLn hi hL nx)
  · exact MW.tsw0 (tgt := 626) (off := 594) D (by decide) (by decide) rfl (by decide) (L_sign hLn hi hL nx)
  · exact MW.tsw0 (tgt := 659) (off := 627) D (by decide) (by decide) rfl (by decide) (L_degree hLn hi hL nx)
  · exact MW.tsw0 (tgt := 692) (off := 660) D (by decide) (by decide) rfl (by decide) (L_rulings hLn hi hL nx)
  · exact MW.tsw0 (tgt := 735) (off := 703) D (by decide) (by decide) rfl (by decide) (L_first hLn hi hL nx)
  · exact MW.tsw0 (tgt := 778) (off := 746) D (by decide) (by decide) rfl (by decide) (L_move hLn hi hL nx)
  · exact MW.tsw0 (tgt := 821) (off := 789) D (by decide) (by decide) rfl (by decide) (L_add hLn hi hL nx)
  · exact MW.tsw0 (tgt := 874) (off := 842) D (by decide) (by decide) rfl (by decide) (L_push hLn hi hL nx)
  · exact MW.tsw0 (tgt := 917) (off := 885) D (by decide) (by decide) rfl (by decide) (L_join hLn hi hL nx)
  · exact MW.tsw0 (tgt := 950) (off := 918) D (by decide) (by decide) rfl (by decide) (L_unlike hLn hi hL nx)
  · exact MW.tsw0 (tgt := 983) (off := 951) D (by decide) (by decide) rfl (by decide) (L_count hLn hi hL nx)
  · exact MW.tswD (tgt := 1006) D (by omega) (by omega) (by decide) (nx h S hL)
end LCS
