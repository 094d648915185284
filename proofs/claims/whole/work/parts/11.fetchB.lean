/-! what stands where in each method, written by wip/whole/gen.py -/
set_option maxRecDepth 100000 in
set_option maxHeartbeats 4000000 in
theorem ft_X5_init : (∀ f : mE → Prop, w_o (mft MX5_init 0) f = f (.aload_n 0, 1, 0, 0, 0, 0, 0)) ∧
  (∀ f : mE → Prop, w_o (mft MX5_init 1) f = f (.invokespecial 3, 4, 1001, 0, 0, 0, 0)) ∧
  (∀ f : mE → Prop, w_o (mft MX5_init 4) f = f (.aload_n 0, 5, 0, 0, 0, 0, 0)) ∧
  (∀ f : mE → Prop, w_o (mft MX5_init 5) f = f (.new 9, 8, 0, 0, 0, 0, 0)) ∧
  (∀ f : mE → Prop, w_o (mft MX5_init 8) f = f (.dup, 9, 0, 0, 0, 0, 0)) ∧
  (∀ f : mE → Prop, w_o (mft MX5_init 9) f = f (.invokespecial 11, 12, 0, 0, 0, 0, 0)) ∧
  (∀ f : mE → Prop, w_o (mft MX5_init 12) f = f (.putfield 12, 15, 5, 0, 2, 0, 0)) ∧
  (∀ f : mE → Prop, w_o (mft MX5_init 15) f = f (.aload_n 0, 16, 0, 0, 0, 0, 0)) ∧
  (∀ f : mE → Prop, w_o (mft MX5_init 16) f = f (.bipush 31, 18, 0, 0, 0, (31), 0)) ∧
  (∀ f : mE → Prop, w_o (mft MX5_init 18) f = f (.bipush 10, 20, 0, 0, 0, (10), 0)) ∧
  (∀ f : mE → Prop, w_o (mft MX5_init 20) f = f (.multianewarray 18 2, 24, 0, 0, 0, 0, 0)) ∧
  (∀ f : mE → Prop, w_o (mft MX5_init 24) f = f (.putfield 20, 27, 5, 1, 2, 0, 0)) ∧
  (∀ f : mE → Prop, w_o (mft MX5_init 27) f = f (.aload_n 0, 28, 0, 0, 0, 0, 0)) ∧
  (∀ f : mE → Prop, w_o (mft MX5_init 28) f = f (.bipush 30, 30, 0, 0, 0, (30), 0)) ∧
  (∀ f : mE → Prop, w_o (mft MX5_init 30) f = f (.newarray .int, 32, 0, 0, 0, 0, 0)) ∧
  (∀ f : mE → Prop, w_o (mft MX5_init 32) f = f (.putfield 23, 35, 5, 2, 2, 0, 0)) ∧
  (∀ f : mE → Prop, w_o (mft MX5_init 35) f = f (.aload_n 0, 36, 0, 0, 0, 0, 0)) ∧
  (∀ f : mE → Prop, w_o (mft MX5_init 36) f = f (.bipush 30, 38, 0, 0, 0, (30), 0)) ∧
  (∀ f : mE → Prop, w_o (mft MX5_init 38) f = f (.newarray .int, 40, 0, 0, 0, 0, 0)) ∧
  (∀ f : mE → Prop, w_o (mft MX5_init 40) f = f (.putfield 27, 43, 5, 3, 2, 0, 0)) ∧
  (∀ f : mE → Prop, w_o (mft MX5_init 43) f = f (.aload_n 0, 44, 0, 0, 0, 0, 0)) ∧
  (∀ f : mE → Prop, w_o (mft MX5_init 44) f = f (.bipush 30, 46, 0, 0, 0, (30), 0)) ∧
  (∀ f : mE → Prop, w_o (mft MX5_init 46) f = f (.newarray .boolean, 48, 0, 0, 0, 0, 0)) ∧
  (∀ f : mE → Prop, w_o (mft MX5_init 48) f = f (.putfield 30, 51, 5, 4, 2, 0, 0)) ∧
  (∀ f : mE → Prop, w_o (mft MX5_init 51) f = f (.aload_n 0, 52, 0, 0, 0, 0, 0)) ∧
  (∀ f : mE → Prop, w_o (mft MX5_init 52) f = f (.bipush 30, 54, 0, 0, 0, (30), 0)) ∧
  (∀ f : mE → Prop, w_o (mft MX5_init 54) f = f (.newarray .int, 56, 0, 0, 0, 0, 0)) ∧
  (∀ f : mE → Prop, w_o (mft MX5_init 56) f = f (.putfield 34, 59, 5, 5, 2, 0, 0)) ∧
  (∀ f : mE → Prop, w_o (mft MX5_init 59) f = f (.aload_n 0, 60, 0, 0, 0, 0, 0)) ∧
  (∀ f : mE → Prop, w_o (mft MX5_init 60) f = f (.bipush 30, 62, 0, 0, 0, (30), 0)) ∧
  (∀ f : mE → Prop, w_o (mft MX5_init 62) f = f (.newarray .boolean, 64, 0, 0, 0, 0, 0)) ∧
  (∀ f : mE → Prop, w_o (mft MX5_init 64) f = f (.putfield 37, 67, 5, 6, 2, 0, 0)) ∧
  (∀ f : mE → Prop, w_o (mft MX5_init 67) f = f (.aload_n 0, 68, 0, 0, 0, 0, 0)) ∧
  (∀ f : mE → Prop, w_o (mft MX5_init 68) f = f (.bipush 30, 70, 0, 0, 0, (30), 0)) ∧
  (∀ f : mE → Prop, w_o (mft MX5_init 70) f = f (.newarray .int, 72, 0, 0, 0, 0, 0)) ∧
  (∀ f : mE → Prop, w_o (mft MX5_init 72) f = f (.putfield 40, 75, 5, 7, 2, 0, 0)) ∧
  (∀ f : mE → Prop, w_o (mft MX5_init 75) f = f (.aload_n 0, 76, 0, 0, 0, 0, 0)) ∧
  (∀ f : mE → Prop, w_o (mft MX5_init 76) f = f (.iconst 0, 77, 0, 0, 0, (0), 0)) ∧
  (∀ f : mE → Prop, w_o (mft MX5_init 77) f = f (.putfield 43, 80, 5, 8, 0, 0, 0)) ∧
  (∀ f : mE → Prop, w_o (mft MX5_init 80) f = f (.aload_n 0, 81, 0, 0, 0, 0, 0)) ∧
  (∀ f : mE → Prop, w_o (mft MX5_init 81) f = f (.iconst 0, 82, 0, 0, 0, (0), 0)) ∧
  (∀ f : mE → Prop, w_o (mft MX5_init 82) f = f (.putfield 47, 85, 5, 9, 0, 0, 0)) ∧
  (∀ f : mE → Prop, w_o (mft MX5_init 85) f = f (.aload_n 0, 86, 0, 0, 0, 0, 0)) ∧
  (∀ f : mE → Prop, w_o (mft MX5_init 86) f = f (.bipush 15, 88, 0, 0, 0, (15), 0)) ∧
  (∀ f : mE → Prop, w_o (mft MX5_init 88) f = f (.newarray .int, 90, 0, 0, 0, 0, 0)) ∧
  (∀ f : mE → Prop, w_o (mft MX5_init 90) f = f (.putfield 50, 93, 5, 10, 2, 0, 0)) ∧
  (∀ f : mE → Prop, w_o (mft MX5_init 93) f = f (.aload_n 0, 94, 0, 0, 0, 0, 0)) ∧
  (∀ f : mE → Prop, w_o (mft MX5_init 94) f = f (.bipush 15, 96, 0, 0, 0, (15), 0)) ∧
  (∀ f : mE → Prop, w_o (mft MX5_init 96) f = f (.newarray .int, 98, 0, 0, 0, 0, 0)) ∧
  (∀ f : mE → Prop, w_o (mft MX5_init 98) f = f (.putfield 53, 101, 5, 11, 2, 0, 0)) ∧
  (∀ f : mE → Prop, w_o (mft MX5_init 101) f = f (.aload_n 0, 102, 0, 0, 0, 0, 0)) ∧
  (∀ f : mE → Prop, w_o (mft MX5_init 102) f = f (.bipush 15, 104, 0, 0, 0, (15), 0)) ∧
  (∀ f : mE → Prop, w_o (mft MX5_init 104) f = f (.newarray .int, 106, 0, 0, 0, 0, 0)) ∧
  (∀ f : mE → Prop, w_o (mft MX5_init 106) f = f (.putfield 56, 109, 5, 12, 2, 0, 0)) ∧
  (∀ f : mE → Prop, w_o (mft MX5_init 109) f = f (.return_, 110, 0, 0, 0, 0, 0)) := ⟨fun _ => rfl, fun _ => rfl, fun _ => rfl, fun _ => rfl, fun _ => rfl, fun _ => rfl, fun _ => rfl, fun _ => rfl, fun _ => rfl, fun _ => rfl, fun _ => rfl, fun _ => rfl, fun _ => rfl, fun _ => rfl, fun _ => rfl, fun _ => rfl, fun _ => rfl, fun _ => rfl, fun _ => rfl, fun _ => rfl, fun _ => rfl, fun _ => rfl, fun _ => rfl, fun _ => rfl, fun _ => rfl, fun _ => rfl, fun _ => rfl, fun _ => rfl, fun _ => rfl, fun _ => rfl, fun _ => rfl, fun _ => rfl, fun _ => rfl, fun _ => rfl, fun _ => rfl, fun _ => rfl, fun _ => rfl, fun _ => rfl, fun _ => rfl, fun _ => rfl, fun _ => rfl, fun _ => rfl, fun _ => rfl, fun _ => rfl, fun _ => rfl, fun _ => rfl, fun _ => rfl, fun _ => rfl, fun _ => rfl, fun _ => rfl, fun _ => rfl, fun _ => rfl, fun _ => rfl, fun _ => rfl, fun _ => rfl⟩
set_option maxRecDepth 100000 in
theorem gd_X5_init : mGood MX5_init := ⟨by decide +kernel, by decide +kernel, by decide +kernel⟩
set_option maxRecDepth 100000 in
set_option maxHeartbeats 4000000 in
theorem ft_X5_trace : (∀ f : mE → Prop, w_o (mft MX5_trace 0) f = f (.aload_n 0, 1, 0, 0, 0, 0, 0)) ∧
  (∀ f : mE → Prop, w_o (mft MX5_trace 1) f = f (.aload_n 1, 2, 1, 0, 0, 0, 0)) ∧
  (∀ f : mE → Prop, w_o (mft MX5_trace 2) f = f (.putfield 12, 5, 5, 0, 2, 0, 0)) ∧
  (∀ f : mE → Prop, w_o (mft MX5_trace 5) f = f (.aload_n 0, 6, 0, 0, 0, 0, 0)) ∧
  (∀ f : mE → Prop, w_o (mft MX5_trace 6) f = f (.invokevirtual 59, 9, 58, 0, 5, 0, 0)) ∧
  (∀ f : mE → Prop, w_o (mft MX5_trace 9) f = f (.iconst 0, 10, 0, 0, 0, (0), 0)) ∧
  (∀ f : mE → Prop, w_o (mft MX5_trace 10) f = f (.istore_n 2, 11, 2, 0, 0, 0, 0)) ∧
  (∀ f : mE → Prop, w_o (mft MX5_trace 11) f = f (.iload_n 2, 12, 2, 0, 0, 0, 0)) ∧
  (∀ f : mE → Prop, w_o (mft MX5_trace 12) f = f (.aload_n 0, 13, 0, 0, 0, 0, 0)) ∧
  (∀ f : mE → Prop, w_o (mft MX5_trace 13) f = f (.getfield 43, 16, 5, 8, 0, 0, 0)) ∧
  (∀ f : mE → Prop, w_o (mft MX5_trace 16) f = f (.if_icmp .ge 16, 19, 32, 0, 0, 0, 0)) ∧
  (∀ f : mE → Prop, w_o (mft MX5_trace 19) f = f (.aload_n 0, 20, 0, 0, 0, 0, 0)) ∧
  (∀ f : mE → Prop, w_o (mft MX5_trace 20) f = f (.getfield 34, 23, 5, 5, 0, 0, 0)) ∧
  (∀ f : mE → Prop, w_o (mft MX5_trace 23) f = f (.iload_n 2, 24, 2, 0, 0, 0, 0)) ∧
  (∀ f : mE → Prop, w_o (mft MX5_trace 24) f = f (.iconst (-1), 25, 0, 0, 0, (-1), 0)) ∧
  (∀ f : mE → Prop, w_o (mft MX5_trace 25) f = f (.iastore, 26, 0, 0, 0, 0, 0)) ∧
  (∀ f : mE → Prop, w_o (mft MX5_trace 26) f = f (.iinc 2 1, 29, 2, 0, 0, (1), 0)) ∧
  (∀ f : mE → Prop, w_o (mft MX5_trace 29) f = f (.goto (-18), 32, 11, 0, 0, 0, 0)) ∧
  (∀ f : mE → Prop, w_o (mft MX5_trace 32) f = f (.aload_n 0, 33, 0, 0, 0, 0, 0)) ∧
  (∀ f : mE → Prop, w_o (mft MX5_trace 33) f = f (.iconst 0, 34, 0, 0, 0, (0), 0)) ∧
  (∀ f : mE → Prop, w_o (mft MX5_trace 34) f = f (.putfield 47, 37, 5, 9, 0, 0, 0)) ∧
  (∀ f : mE → Prop, w_o (mft MX5_trace 37) f = f (.iconst 1, 38, 0, 0, 0, (1), 0)) ∧
  (∀ f : mE → Prop, w_o (mft MX5_trace 38) f = f (.istore_n 2, 39, 2, 0, 0, 0, 0)) ∧
  (∀ f : mE → Prop, w_o (mft MX5_trace 39) f = f (.iload_n 2, 40, 2, 0, 0, 0, 0)) ∧
  (∀ f : mE → Prop, w_o (mft MX5_trace 40) f = f (.aload_n 0, 41, 0, 0, 0, 0, 0)) ∧
  (∀ f : mE → Prop, w_o (mft MX5_trace 41) f = f (.getfield 43, 44, 5, 8, 0, 0, 0)) ∧
  (∀ f : mE → Prop, w_o (mft MX5_trace 44) f = f (.if_icmp .ge 33, 47, 77, 0, 0, 0, 0)) ∧
  (∀ f : mE → Prop, w_o (mft MX5_trace 47) f = f (.aload_n 0, 48, 0, 0, 0, 0, 0)) ∧
  (∀ f : mE → Prop, w_o (mft MX5_trace 48) f = f (.getfield 34, 51, 5, 5, 0, 0, 0)) ∧
  (∀ f : mE → Prop, w_o (mft MX5_trace 51) f = f (.iload_n 2, 52, 2, 0, 0, 0, 0)) ∧
  (∀ f : mE → Prop, w_o (mft MX5_trace 52) f = f (.iaload, 53, 0, 0, 0, 0, 0)) ∧
  (∀ f : mE → Prop, w_o (mft MX5_trace 53) f = f (.iconst (-1), 54, 0, 0, 0, (-1), 0)) ∧
  (∀ f : mE → Prop, w_o (mft MX5_trace 54) f = f (.if_icmp .ne 17, 57, 71, 0, 0, 0, 0)) ∧
  (∀ f : mE → Prop, w_o (mft MX5_trace 57) f = f (.aload_n 0, 58, 0, 0, 0, 0, 0)) ∧
  (∀ f : mE → Prop, w_o (mft MX5_trace 58) f = f (.getfield 47, 61, 5, 9, 0, 0, 0)) ∧
  (∀ f : mE → Prop, w_o (mft MX5_trace 61) f = f (.bipush 15, 63, 0, 0, 0, (15), 0)) ∧
  (∀ f : mE → Prop, w_o (mft MX5_trace 63) f = f (.if_icmp .ge 8, 66, 71, 0, 0, 0, 0)) ∧
  (∀ f : mE → Prop, w_o (mft MX5_trace 66) f = f (.aload_n 0, 67, 0, 0, 0, 0, 0)) ∧
  (∀ f : mE → Prop, w_o (mft MX5_trace 67) f = f (.iload_n 2, 68, 2, 0, 0, 0, 0)) ∧
  (∀ f : mE → Prop, w_o (mft MX5_trace 68) f = f (.invokevirtual 62, 71, 61, 1, 5, 0, 0)) ∧
  (∀ f : mE → Prop, w_o (mft MX5_trace 71) f = f (.iinc 2 2, 74, 2, 0, 0, (2), 0)) ∧
  (∀ f : mE → Prop, w_o (mft MX5_trace 74) f = f (.goto (-35), 77, 39, 0, 0, 0, 0)) ∧
  (∀ f : mE → Prop, w_o (mft MX5_trace 77) f = f (.return_, 78, 0, 0, 0, 0, 0)) := ⟨fun _ => rfl, fun _ => rfl, fun _ => rfl, fun _ => rfl, fun _ => rfl, fun _ => rfl, fun _ => rfl, fun _ => rfl, fun _ => rfl, fun _ => rfl, fun _ => rfl, fun _ => rfl, fun _ => rfl, fun _ => rfl, fun _ => rfl, fun _ => rfl, fun _ => rfl, fun _ => rfl, fun _ => rfl, fun _ => rfl, fun _ => rfl, fun _ => rfl, fun _ => rfl, fun _ => rfl, fun _ => rfl, fun _ => rfl, fun _ => rfl, fun _ => rfl, fun _ => rfl, fun _ => rfl, fun _ => rfl, fun _ => rfl, fun _ => rfl, fun _ => rfl, fun _ => rfl, fun _ => rfl, fun _ => rfl, fun _ => rfl, fun _ => rfl, fun _ => rfl, fun _ => rfl, fun _ => rfl, fun _ => rfl⟩
set_option maxRecDepth 100000 in
theorem gd_X5_trace : mGood MX5_trace := ⟨by decide +kernel, by decide +kernel, by decide +kernel⟩
set_option maxRecDepth 100000 in
set_option maxHeartbeats 4000000 in
theorem ft_X5_layArcs : (∀ f : mE → Prop, w_o (mft MX5_layArcs 0) f = f (.aload_n 0, 1, 0, 0, 0, 0, 0)) ∧
  (∀ f : mE → Prop, w_o (mft MX5_layArcs 1) f = f (.iconst 0, 2, 0, 0, 0, (0), 0)) ∧
  (∀ f : mE → Prop, w_o (mft MX5_layArcs 2) f = f (.putfield 43, 5, 5, 8, 0, 0, 0)) ∧
  (∀ f : mE → Prop, w_o (mft MX5_layArcs 5) f = f (.iconst 0, 6, 0, 0, 0, (0), 0)) ∧
  (∀ f : mE → Prop, w_o (mft MX5_layArcs 6) f = f (.istore_n 1, 7, 1, 0, 0, 0, 0)) ∧
  (∀ f : mE → Prop, w_o (mft MX5_layArcs 7) f = f (.iload_n 1, 8, 1, 0, 0, 0, 0)) ∧
  (∀ f : mE → Prop, w_o (mft MX5_layArcs 8) f = f (.aload_n 0, 9, 0, 0, 0, 0, 0)) ∧
  (∀ f : mE → Prop, w_o (mft MX5_layArcs 9) f = f (.getfield 12, 12, 5, 0, 0, 0, 0)) ∧
  (∀ f : mE → Prop, w_o (mft MX5_layArcs 12) f = f (.getfield 66, 15, 0, 3, 0, 0, 0)) ∧
  (∀ f : mE → Prop, w_o (mft MX5_layArcs 15) f = f (.if_icmp .ge 181, 18, 196, 0, 0, 0, 0)) ∧
  (∀ f : mE → Prop, w_o (mft MX5_layArcs 18) f = f (.aload_n 0, 19, 0, 0, 0, 0, 0)) ∧
  (∀ f : mE → Prop, w_o (mft MX5_layArcs 19) f = f (.getfield 20, 22, 5, 1, 0, 0, 0)) ∧
  (∀ f : mE → Prop, w_o (mft MX5_layArcs 22) f = f (.iload_n 1, 23, 1, 0, 0, 0, 0)) ∧
  (∀ f : mE → Prop, w_o (mft MX5_layArcs 23) f = f (.aaload, 24, 3, 0, 0, 0, 0)) ∧
  (∀ f : mE → Prop, w_o (mft MX5_layArcs 24) f = f (.astore_n 2, 25, 2, 0, 0, 0, 0)) ∧
  (∀ f : mE → Prop, w_o (mft MX5_layArcs 25) f = f (.aload_n 0, 26, 0, 0, 0, 0, 0)) ∧
  (∀ f : mE → Prop, w_o (mft MX5_layArcs 26) f = f (.getfield 20, 29, 5, 1, 0, 0, 0)) ∧
  (∀ f : mE → Prop, w_o (mft MX5_layArcs 29) f = f (.iload_n 1, 30, 1, 0, 0, 0, 0)) ∧
  (∀ f : mE → Prop, w_o (mft MX5_layArcs 30) f = f (.iconst 1, 31, 0, 0, 0, (1), 0)) ∧
  (∀ f : mE → Prop, w_o (mft MX5_layArcs 31) f = f (.iadd, 32, 0, 0, 0, 0, 0)) ∧
  (∀ f : mE → Prop, w_o (mft MX5_layArcs 32) f = f (.aaload, 33, 3, 0, 0, 0, 0)) ∧
  (∀ f : mE → Prop, w_o (mft MX5_layArcs 33) f = f (.astore_n 3, 34, 3, 0, 0, 0, 0)) ∧
  (∀ f : mE → Prop, w_o (mft MX5_layArcs 34) f = f (.aload_n 0, 35, 0, 0, 0, 0, 0)) ∧
  (∀ f : mE → Prop, w_o (mft MX5_layArcs 35) f = f (.getfield 12, 38, 5, 0, 0, 0, 0)) ∧
  (∀ f : mE → Prop, w_o (mft MX5_layArcs 38) f = f (.getfield 69, 41, 0, 1, 0, 0, 0)) ∧
  (∀ f : mE → Prop, w_o (mft MX5_layArcs 41) f = f (.iload_n 1, 42, 1, 0, 0, 0, 0)) ∧
  (∀ f : mE → Prop, w_o (mft MX5_layArcs 42) f = f (.iaload, 43, 0, 0, 0, 0, 0)) ∧
  (∀ f : mE → Prop, w_o (mft MX5_layArcs 43) f = f (.istore 4, 45, 4, 0, 0, 0, 0)) ∧
  (∀ f : mE → Prop, w_o (mft MX5_layArcs 45) f = f (.aload_n 0, 46, 0, 0, 0, 0, 0)) ∧
  (∀ f : mE → Prop, w_o (mft MX5_layArcs 46) f = f (.getfield 12, 49, 5, 0, 0, 0, 0)) ∧
  (∀ f : mE → Prop, w_o (mft MX5_layArcs 49) f = f (.getfield 72, 52, 0, 2, 0, 0, 0)) ∧
  (∀ f : mE → Prop, w_o (mft MX5_layArcs 52) f = f (.iload_n 1, 53, 1, 0, 0, 0, 0)) ∧
  (∀ f : mE → Prop, w_o (mft MX5_layArcs 53) f = f (.iaload, 54, 0, 0, 0, 0, 0)) ∧
  (∀ f : mE → Prop, w_o (mft MX5_layArcs 54) f = f (.istore 5, 56, 5, 0, 0, 0, 0)) ∧
  (∀ f : mE → Prop, w_o (mft MX5_layArcs 56) f = f (.aload_n 0, 57, 0, 0, 0, 0, 0)) ∧
  (∀ f : mE → Prop, w_o (mft MX5_layArcs 57) f = f (.getfield 12, 60, 5, 0, 0, 0, 0)) ∧
  (∀ f : mE → Prop, w_o (mft MX5_layArcs 60) f = f (.getfield 75, 63, 0, 0, 0, 0, 0)) ∧
  (∀ f : mE → Prop, w_o (mft MX5_layArcs 63) f = f (.iload_n 1, 64, 1, 0, 0, 0, 0)) ∧
  (∀ f : mE → Prop, w_o (mft MX5_layArcs 64) f = f (.iaload, 65, 0, 0, 0, 0, 0)) ∧
  (∀ f : mE → Prop, w_o (mft MX5_layArcs 65) f = f (.ifCond .ne 39, 68, 104, 0, 0, 0, 0)) ∧
  (∀ f : mE → Prop, w_o (mft MX5_layArcs 68) f = f (.aload_n 2, 69, 2, 0, 0, 0, 0)) ∧
  (∀ f : mE → Prop, w_o (mft MX5_layArcs 69) f = f (.iconst 0, 70, 0, 0, 0, (0), 0)) ∧
  (∀ f : mE → Prop, w_o (mft MX5_layArcs 70) f = f (.aload_n 3, 71, 3, 0, 0, 0, 0)) ∧
  (∀ f : mE → Prop, w_o (mft MX5_layArcs 71) f = f (.iconst 0, 72, 0, 0, 0, (0), 0)) ∧
  (∀ f : mE → Prop, w_o (mft MX5_layArcs 72) f = f (.iload 4, 74, 4, 0, 0, 0, 0)) ∧
  (∀ f : mE → Prop, w_o (mft MX5_layArcs 74) f = f (.invokestatic 78, 77, 1000, 0, 0, 0, 0)) ∧
  (∀ f : mE → Prop, w_o (mft MX5_layArcs 77) f = f (.aload_n 2, 78, 2, 0, 0, 0, 0)) ∧
  (∀ f : mE → Prop, w_o (mft MX5_layArcs 78) f = f (.iload 4, 80, 4, 0, 0, 0, 0)) ∧
  (∀ f : mE → Prop, w_o (mft MX5_layArcs 80) f = f (.aload_n 3, 81, 3, 0, 0, 0, 0)) ∧
  (∀ f : mE → Prop, w_o (mft MX5_layArcs 81) f = f (.iload 4, 83, 4, 0, 0, 0, 0)) ∧
  (∀ f : mE → Prop, w_o (mft MX5_layArcs 83) f = f (.iconst 2, 84, 0, 0, 0, (2), 0)) ∧
  (∀ f : mE → Prop, w_o (mft MX5_layArcs 84) f = f (.iadd, 85, 0, 0, 0, 0, 0)) ∧
  (∀ f : mE → Prop, w_o (mft MX5_layArcs 85) f = f (.iload 5, 87, 5, 0, 0, 0, 0)) ∧
  (∀ f : mE → Prop, w_o (mft MX5_layArcs 87) f = f (.iload 4, 89, 4, 0, 0, 0, 0)) ∧
  (∀ f : mE → Prop, w_o (mft MX5_layArcs 89) f = f (.isub, 90, 0, 0, 0, 0, 0)) ∧
  (∀ f : mE → Prop, w_o (mft MX5_layArcs 90) f = f (.invokestatic 78, 93, 1000, 0, 0, 0, 0)) ∧
  (∀ f : mE → Prop, w_o (mft MX5_layArcs 93) f = f (.aload_n 0, 94, 0, 0, 0, 0, 0)) ∧
  (∀ f : mE → Prop, w_o (mft MX5_layArcs 94) f = f (.iload_n 1, 95, 1, 0, 0, 0, 0)) ∧
  (∀ f : mE → Prop, w_o (mft MX5_layArcs 95) f = f (.aload_n 3, 96, 3, 0, 0, 0, 0)) ∧
  (∀ f : mE → Prop, w_o (mft MX5_layArcs 96) f = f (.iload 4, 98, 4, 0, 0, 0, 0)) ∧
  (∀ f : mE → Prop, w_o (mft MX5_layArcs 98) f = f (.invokevirtual 84, 101, 59, 3, 5, 0, 0)) ∧
  (∀ f : mE → Prop, w_o (mft MX5_layArcs 101) f = f (.goto 89, 104, 190, 0, 0, 0, 0)) ∧
  (∀ f : mE → Prop, w_o (mft MX5_layArcs 104) f = f (.aload_n 0, 105, 0, 0, 0, 0, 0)) ∧
  (∀ f : mE → Prop, w_o (mft MX5_layArcs 105) f = f (.getfield 12, 108, 5, 0, 0, 0, 0)) ∧
  (∀ f : mE → Prop, w_o (mft MX5_layArcs 108) f = f (.getfield 75, 111, 0, 0, 0, 0, 0)) ∧
  (∀ f : mE → Prop, w_o (mft MX5_layArcs 111) f = f (.iload_n 1, 112, 1, 0, 0, 0, 0)) ∧
  (∀ f : mE → Prop, w_o (mft MX5_layArcs 112) f = f (.iaload, 113, 0, 0, 0, 0, 0)) ∧
  (∀ f : mE → Prop, w_o (mft MX5_layArcs 113) f = f (.iconst 1, 114, 0, 0, 0, (1), 0)) ∧
  (∀ f : mE → Prop, w_o (mft MX5_layArcs 114) f = f (.if_icmp .ne 35, 117, 149, 0, 0, 0, 0)) ∧
  (∀ f : mE → Prop, w_o (mft MX5_layArcs 117) f = f (.aload_n 2, 118, 2, 0, 0, 0, 0)) ∧
  (∀ f : mE → Prop, w_o (mft MX5_layArcs 118) f = f (.iconst 0, 119, 0, 0, 0, (0), 0)) ∧
  (∀ f : mE → Prop, w_o (mft MX5_layArcs 119) f = f (.aload_n 3, 120, 3, 0, 0, 0, 0)) ∧
  (∀ f : mE → Prop, w_o (mft MX5_layArcs 120) f = f (.iconst 0, 121, 0, 0, 0, (0), 0)) ∧
  (∀ f : mE → Prop, w_o (mft MX5_layArcs 121) f = f (.iload 5, 123, 5, 0, 0, 0, 0)) ∧
  (∀ f : mE → Prop, w_o (mft MX5_layArcs 123) f = f (.invokestatic 78, 126, 1000, 0, 0, 0, 0)) ∧
  (∀ f : mE → Prop, w_o (mft MX5_layArcs 126) f = f (.aload_n 3, 127, 3, 0, 0, 0, 0)) ∧
  (∀ f : mE → Prop, w_o (mft MX5_layArcs 127) f = f (.iload 4, 129, 4, 0, 0, 0, 0)) ∧
  (∀ f : mE → Prop, w_o (mft MX5_layArcs 129) f = f (.aload_n 2, 130, 2, 0, 0, 0, 0)) ∧
  (∀ f : mE → Prop, w_o (mft MX5_layArcs 130) f = f (.iload 4, 132, 4, 0, 0, 0, 0)) ∧
  (∀ f : mE → Prop, w_o (mft MX5_layArcs 132) f = f (.iconst 1, 133, 0, 0, 0, (1), 0)) ∧
  (∀ f : mE → Prop, w_o (mft MX5_layArcs 133) f = f (.iadd, 134, 0, 0, 0, 0, 0)) ∧
  (∀ f : mE → Prop, w_o (mft MX5_layArcs 134) f = f (.iaload, 135, 0, 0, 0, 0, 0)) ∧
  (∀ f : mE → Prop, w_o (mft MX5_layArcs 135) f = f (.iastore, 136, 0, 0, 0, 0, 0)) ∧
  (∀ f : mE → Prop, w_o (mft MX5_layArcs 136) f = f (.aload_n 3, 137, 3, 0, 0, 0, 0)) ∧
  (∀ f : mE → Prop, w_o (mft MX5_layArcs 137) f = f (.iload 4, 139, 4, 0, 0, 0, 0)) ∧
  (∀ f : mE → Prop, w_o (mft MX5_layArcs 139) f = f (.iconst 1, 140, 0, 0, 0, (1), 0)) ∧
  (∀ f : mE → Prop, w_o (mft MX5_layArcs 140) f = f (.iadd, 141, 0, 0, 0, 0, 0)) ∧
  (∀ f : mE → Prop, w_o (mft MX5_layArcs 141) f = f (.aload_n 2, 142, 2, 0, 0, 0, 0)) ∧
  (∀ f : mE → Prop, w_o (mft MX5_layArcs 142) f = f (.iload 4, 144, 4, 0, 0, 0, 0)) ∧
  (∀ f : mE → Prop, w_o (mft MX5_layArcs 144) f = f (.iaload, 145, 0, 0, 0, 0, 0)) ∧
  (∀ f : mE → Prop, w_o (mft MX5_layArcs 145) f = f (.iastore, 146, 0, 0, 0, 0, 0)) ∧
  (∀ f : mE → Prop, w_o (mft MX5_layArcs 146) f = f (.goto 44, 149, 190, 0, 0, 0, 0)) ∧
  (∀ f : mE → Prop, w_o (mft MX5_layArcs 149) f = f (.aload_n 2, 150, 2, 0, 0, 0, 0)) ∧
  (∀ f : mE → Prop, w_o (mft MX5_layArcs 150) f = f (.iconst 0, 151, 0, 0, 0, (0), 0)) ∧
  (∀ f : mE → Prop, w_o (mft MX5_layArcs 151) f = f (.aload_n 3, 152, 3, 0, 0, 0, 0)) ∧
  (∀ f : mE → Prop, w_o (mft MX5_layArcs 152) f = f (.iconst 0, 153, 0, 0, 0, (0), 0)) ∧
  (∀ f : mE → Prop, w_o (mft MX5_layArcs 153) f = f (.iload 4, 155, 4, 0, 0, 0, 0)) ∧
  (∀ f : mE → Prop, w_o (mft MX5_layArcs 155) f = f (.invokestatic 78, 158, 1000, 0, 0, 0, 0)) ∧
  (∀ f : mE → Prop, w_o (mft MX5_layArcs 158) f = f (.aload_n 2, 159, 2, 0, 0, 0, 0)) ∧
  (∀ f : mE → Prop, w_o (mft MX5_layArcs 159) f = f (.iload 4, 161, 4, 0, 0, 0, 0)) ∧
  (∀ f : mE → Prop, w_o (mft MX5_layArcs 161) f = f (.iconst 2, 162, 0, 0, 0, (2), 0)) ∧
  (∀ f : mE → Prop, w_o (mft MX5_layArcs 162) f = f (.iadd, 163, 0, 0, 0, 0, 0)) ∧
  (∀ f : mE → Prop, w_o (mft MX5_layArcs 163) f = f (.aload_n 3, 164, 3, 0, 0, 0, 0)) ∧
  (∀ f : mE → Prop, w_o (mft MX5_layArcs 164) f = f (.iload 4, 166, 4, 0, 0, 0, 0)) ∧
  (∀ f : mE → Prop, w_o (mft MX5_layArcs 166) f = f (.iload 5, 168, 5, 0, 0, 0, 0)) ∧
  (∀ f : mE → Prop, w_o (mft MX5_layArcs 168) f = f (.iload 4, 170, 4, 0, 0, 0, 0)) ∧
  (∀ f : mE → Prop, w_o (mft MX5_layArcs 170) f = f (.isub, 171, 0, 0, 0, 0, 0)) ∧
  (∀ f : mE → Prop, w_o (mft MX5_layArcs 171) f = f (.iconst 2, 172, 0, 0, 0, (2), 0)) ∧
  (∀ f : mE → Prop, w_o (mft MX5_layArcs 172) f = f (.isub, 173, 0, 0, 0, 0, 0)) ∧
  (∀ f : mE → Prop, w_o (mft MX5_layArcs 173) f = f (.invokestatic 78, 176, 1000, 0, 0, 0, 0)) ∧
  (∀ f : mE → Prop, w_o (mft MX5_layArcs 176) f = f (.aload_n 0, 177, 0, 0, 0, 0, 0)) ∧
  (∀ f : mE → Prop, w_o (mft MX5_layArcs 177) f = f (.aload_n 2, 178, 2, 0, 0, 0, 0)) ∧
  (∀ f : mE → Prop, w_o (mft MX5_layArcs 178) f = f (.iload 4, 180, 4, 0, 0, 0, 0)) ∧
  (∀ f : mE → Prop, w_o (mft MX5_layArcs 180) f = f (.iaload, 181, 0, 0, 0, 0, 0)) ∧
  (∀ f : mE → Prop, w_o (mft MX5_layArcs 181) f = f (.aload_n 2, 182, 2, 0, 0, 0, 0)) ∧
  (∀ f : mE → Prop, w_o (mft MX5_layArcs 182) f = f (.iload 4, 184, 4, 0, 0, 0, 0)) ∧
  (∀ f : mE → Prop, w_o (mft MX5_layArcs 184) f = f (.iconst 1, 185, 0, 0, 0, (1), 0)) ∧
  (∀ f : mE → Prop, w_o (mft MX5_layArcs 185) f = f (.iadd, 186, 0, 0, 0, 0, 0)) ∧
  (∀ f : mE → Prop, w_o (mft MX5_layArcs 186) f = f (.iaload, 187, 0, 0, 0, 0, 0)) ∧
  (∀ f : mE → Prop, w_o (mft MX5_layArcs 187) f = f (.invokevirtual 88, 190, 60, 2, 5, 0, 0)) ∧
  (∀ f : mE → Prop, w_o (mft MX5_layArcs 190) f = f (.iinc 1 1, 193, 1, 0, 0, (1), 0)) ∧
  (∀ f : mE → Prop, w_o (mft MX5_layArcs 193) f = f (.goto (-186), 196, 7, 0, 0, 0, 0)) ∧
  (∀ f : mE → Prop, w_o (mft MX5_layArcs 196) f = f (.return_, 197, 0, 0, 0, 0, 0)) := ⟨fun _ => rfl, fun _ => rfl, fun _ => rfl, fun _ => rfl, fun _ => rfl, fun _ => rfl, fun _ => rfl, fun _ => rfl, fun _ => rfl, fun _ => rfl, fun _ => rfl, fun _ => rfl, fun _ => rfl, fun _ => rfl, fun _ => rfl, fun _ => rfl, fun _ => rfl, fun _ => rfl, fun _ => rfl, fun _ => rfl, fun _ => rfl, fun _ => rfl, fun _ => rfl, fun _ => rfl, fun _ => rfl, fun _ => rfl, fun _ => rfl, fun _ => rfl, fun _ => rfl, fun _ => rfl, fun _ => rfl, fun _ => rfl, fun _ => rfl, fun _ => rfl, fun _ => rfl, fun _ => rfl, fun _ => rfl, fun _ => rfl, fun _ => rfl, fun _ => rfl, fun _ => rfl, fun _ => rfl, fun _ => rfl, fun _ => rfl, fun _ => rfl, fun _ => rfl, fun _ => rfl, fun _ => rfl, fun _ => rfl, fun _ => rfl, fun _ => rfl, fun _ => rfl, fun _ => rfl, fun _ => rfl, fun _ => rfl, fun _ => rfl, fun _ => rfl, fun _ => rfl, fun _ => rfl, fun _ => rfl, fun _ => rfl, fun _ => rfl, fun _ => rfl, fun _ => rfl, fun _ => rfl, fun _ => rfl, fun _ => rfl, fun _ => rfl, fun _ => rfl, fun _ => rfl, fun _ => rfl, fun _ => rfl, fun _ => rfl, fun _ => rfl, fun _ => rfl, fun _ => rfl, fun _ => rfl, fun _ => rfl, fun _ => rfl, fun _ => rfl, fun _ => rfl, fun _ => rfl, fun _ => rfl, fun _ => rfl, fun _ => rfl, fun _ => rfl, fun _ => rfl, fun _ => rfl, fun _ => rfl, fun _ => rfl, fun _ => rfl, fun _ => rfl, fun _ => rfl, fun _ => rfl, fun _ => rfl, fun _ => rfl, fun _ => rfl, fun _ => rfl, fun _ => rfl, fun _ => rfl, fun _ => rfl, fun _ => rfl, fun _ => rfl, fun _ => rfl, fun _ => rfl, fun _ => rfl, fun _ => rfl, fun _ => rfl, fun _ => rfl, fun _ => rfl, fun _ => rfl, fun _ => rfl, fun _ => rfl, fun _ => rfl, fun _ => rfl, fun _ => rfl, fun _ => rfl, fun _ => rfl, fun _ => rfl, fun _ => rfl, fun _ => rfl, fun _ => rfl, fun _ => rfl⟩
set_option maxRecDepth 100000 in
theorem gd_X5_layArcs : mGood MX5_layArcs := ⟨by decide +kernel, by decide +kernel, by decide +kernel⟩
set_option maxRecDepth 100000 in
set_option maxHeartbeats 4000000 in
theorem ft_X5_beginArcs : (∀ f : mE → Prop, w_o (mft MX5_beginArcs 0) f = f (.aload_n 2, 1, 2, 0, 0, 0, 0)) ∧
  (∀ f : mE → Prop, w_o (mft MX5_beginArcs 1) f = f (.iload_n 3, 2, 3, 0, 0, 0, 0)) ∧
  (∀ f : mE → Prop, w_o (mft MX5_beginArcs 2) f = f (.aload_n 0, 3, 0, 0, 0, 0, 0)) ∧
  (∀ f : mE → Prop, w_o (mft MX5_beginArcs 3) f = f (.getfield 43, 6, 5, 8, 0, 0, 0)) ∧
  (∀ f : mE → Prop, w_o (mft MX5_beginArcs 6) f = f (.iastore, 7, 0, 0, 0, 0, 0)) ∧
  (∀ f : mE → Prop, w_o (mft MX5_beginArcs 7) f = f (.aload_n 2, 8, 2, 0, 0, 0, 0)) ∧
  (∀ f : mE → Prop, w_o (mft MX5_beginArcs 8) f = f (.iload_n 3, 9, 3, 0, 0, 0, 0)) ∧
  (∀ f : mE → Prop, w_o (mft MX5_beginArcs 9) f = f (.iconst 1, 10, 0, 0, 0, (1), 0)) ∧
  (∀ f : mE → Prop, w_o (mft MX5_beginArcs 10) f = f (.iadd, 11, 0, 0, 0, 0, 0)) ∧
  (∀ f : mE → Prop, w_o (mft MX5_beginArcs 11) f = f (.aload_n 0, 12, 0, 0, 0, 0, 0)) ∧
  (∀ f : mE → Prop, w_o (mft MX5_beginArcs 12) f = f (.getfield 43, 15, 5, 8, 0, 0, 0)) ∧
  (∀ f : mE → Prop, w_o (mft MX5_beginArcs 15) f = f (.iconst 1, 16, 0, 0, 0, (1), 0)) ∧
  (∀ f : mE → Prop, w_o (mft MX5_beginArcs 16) f = f (.iadd, 17, 0, 0, 0, 0, 0)) ∧
  (∀ f : mE → Prop, w_o (mft MX5_beginArcs 17) f = f (.iastore, 18, 0, 0, 0, 0, 0)) ∧
  (∀ f : mE → Prop, w_o (mft MX5_beginArcs 18) f = f (.aload_n 0, 19, 0, 0, 0, 0, 0)) ∧
  (∀ f : mE → Prop, w_o (mft MX5_beginArcs 19) f = f (.getfield 23, 22, 5, 2, 0, 0, 0)) ∧
  (∀ f : mE → Prop, w_o (mft MX5_beginArcs 22) f = f (.aload_n 0, 23, 0, 0, 0, 0, 0)) ∧
  (∀ f : mE → Prop, w_o (mft MX5_beginArcs 23) f = f (.getfield 43, 26, 5, 8, 0, 0, 0)) ∧
  (∀ f : mE → Prop, w_o (mft MX5_beginArcs 26) f = f (.iload_n 1, 27, 1, 0, 0, 0, 0)) ∧
  (∀ f : mE → Prop, w_o (mft MX5_beginArcs 27) f = f (.iastore, 28, 0, 0, 0, 0, 0)) ∧
  (∀ f : mE → Prop, w_o (mft MX5_beginArcs 28) f = f (.aload_n 0, 29, 0, 0, 0, 0, 0)) ∧
  (∀ f : mE → Prop, w_o (mft MX5_beginArcs 29) f = f (.getfield 23, 32, 5, 2, 0, 0, 0)) ∧
  (∀ f : mE → Prop, w_o (mft MX5_beginArcs 32) f = f (.aload_n 0, 33, 0, 0, 0, 0, 0)) ∧
  (∀ f : mE → Prop, w_o (mft MX5_beginArcs 33) f = f (.getfield 43, 36, 5, 8, 0, 0, 0)) ∧
  (∀ f : mE → Prop, w_o (mft MX5_beginArcs 36) f = f (.iconst 1, 37, 0, 0, 0, (1), 0)) ∧
  (∀ f : mE → Prop, w_o (mft MX5_beginArcs 37) f = f (.iadd, 38, 0, 0, 0, 0, 0)) ∧
  (∀ f : mE → Prop, w_o (mft MX5_beginArcs 38) f = f (.iload_n 1, 39, 1, 0, 0, 0, 0)) ∧
  (∀ f : mE → Prop, w_o (mft MX5_beginArcs 39) f = f (.iastore, 40, 0, 0, 0, 0, 0)) ∧
  (∀ f : mE → Prop, w_o (mft MX5_beginArcs 40) f = f (.aload_n 0, 41, 0, 0, 0, 0, 0)) ∧
  (∀ f : mE → Prop, w_o (mft MX5_beginArcs 41) f = f (.dup, 42, 0, 0, 0, 0, 0)) ∧
  (∀ f : mE → Prop, w_o (mft MX5_beginArcs 42) f = f (.getfield 43, 45, 5, 8, 0, 0, 0)) ∧
  (∀ f : mE → Prop, w_o (mft MX5_beginArcs 45) f = f (.iconst 2, 46, 0, 0, 0, (2), 0)) ∧
  (∀ f : mE → Prop, w_o (mft MX5_beginArcs 46) f = f (.iadd, 47, 0, 0, 0, 0, 0)) ∧
  (∀ f : mE → Prop, w_o (mft MX5_beginArcs 47) f = f (.putfield 43, 50, 5, 8, 0, 0, 0)) ∧
  (∀ f : mE → Prop, w_o (mft MX5_beginArcs 50) f = f (.return_, 51, 0, 0, 0, 0, 0)) := ⟨fun _ => rfl, fun _ => rfl, fun _ => rfl, fun _ => rfl, fun _ => rfl, fun _ => rfl, fun _ => rfl, fun _ => rfl, fun _ => rfl, fun _ => rfl, fun _ => rfl, fun _ => rfl, fun _ => rfl, fun _ => rfl, fun _ => rfl, fun _ => rfl, fun _ => rfl, fun _ => rfl, fun _ => rfl, fun _ => rfl, fun _ => rfl, fun _ => rfl, fun _ => rfl, fun _ => rfl, fun _ => rfl, fun _ => rfl, fun _ => rfl, fun _ => rfl, fun _ => rfl, fun _ => rfl, fun _ => rfl, fun _ => rfl, fun _ => rfl, fun _ => rfl, fun _ => rfl⟩
set_option maxRecDepth 100000 in
theorem gd_X5_beginArcs : mGood MX5_beginArcs := ⟨by decide +kernel, by decide +kernel, by decide +kernel⟩
set_option maxRecDepth 100000 in
set_option maxHeartbeats 4000000 in
theorem ft_X5_endArcs : (∀ f : mE → Prop, w_o (mft MX5_endArcs 0) f = f (.aload_n 0, 1, 0, 0, 0, 0, 0)) ∧
  (∀ f : mE → Prop, w_o (mft MX5_endArcs 1) f = f (.getfield 27, 4, 5, 3, 0, 0, 0)) ∧
  (∀ f : mE → Prop, w_o (mft MX5_endArcs 4) f = f (.iload_n 1, 5, 1, 0, 0, 0, 0)) ∧
  (∀ f : mE → Prop, w_o (mft MX5_endArcs 5) f = f (.iload_n 2, 6, 2, 0, 0, 0, 0)) ∧
  (∀ f : mE → Prop, w_o (mft MX5_endArcs 6) f = f (.iastore, 7, 0, 0, 0, 0, 0)) ∧
  (∀ f : mE → Prop, w_o (mft MX5_endArcs 7) f = f (.aload_n 0, 8, 0, 0, 0, 0, 0)) ∧
  (∀ f : mE → Prop, w_o (mft MX5_endArcs 8) f = f (.getfield 27, 11, 5, 3, 0, 0, 0)) ∧
  (∀ f : mE → Prop, w_o (mft MX5_endArcs 11) f = f (.iload_n 2, 12, 2, 0, 0, 0, 0)) ∧
  (∀ f : mE → Prop, w_o (mft MX5_endArcs 12) f = f (.iload_n 1, 13, 1, 0, 0, 0, 0)) ∧
  (∀ f : mE → Prop, w_o (mft MX5_endArcs 13) f = f (.iastore, 14, 0, 0, 0, 0, 0)) ∧
  (∀ f : mE → Prop, w_o (mft MX5_endArcs 14) f = f (.aload_n 0, 15, 0, 0, 0, 0, 0)) ∧
  (∀ f : mE → Prop, w_o (mft MX5_endArcs 15) f = f (.getfield 30, 18, 5, 4, 0, 0, 0)) ∧
  (∀ f : mE → Prop, w_o (mft MX5_endArcs 18) f = f (.iload_n 1, 19, 1, 0, 0, 0, 0)) ∧
  (∀ f : mE → Prop, w_o (mft MX5_endArcs 19) f = f (.iconst 0, 20, 0, 0, 0, (0), 0)) ∧
  (∀ f : mE → Prop, w_o (mft MX5_endArcs 20) f = f (.bastore, 21, 2, 0, 0, 0, 0)) ∧
  (∀ f : mE → Prop, w_o (mft MX5_endArcs 21) f = f (.aload_n 0, 22, 0, 0, 0, 0, 0)) ∧
  (∀ f : mE → Prop, w_o (mft MX5_endArcs 22) f = f (.getfield 30, 25, 5, 4, 0, 0, 0)) ∧
  (∀ f : mE → Prop, w_o (mft MX5_endArcs 25) f = f (.iload_n 2, 26, 2, 0, 0, 0, 0)) ∧
  (∀ f : mE → Prop, w_o (mft MX5_endArcs 26) f = f (.iconst 1, 27, 0, 0, 0, (1), 0)) ∧
  (∀ f : mE → Prop, w_o (mft MX5_endArcs 27) f = f (.bastore, 28, 2, 0, 0, 0, 0)) ∧
  (∀ f : mE → Prop, w_o (mft MX5_endArcs 28) f = f (.return_, 29, 0, 0, 0, 0, 0)) := ⟨fun _ => rfl, fun _ => rfl, fun _ => rfl, fun _ => rfl, fun _ => rfl, fun _ => rfl, fun _ => rfl, fun _ => rfl, fun _ => rfl, fun _ => rfl, fun _ => rfl, fun _ => rfl, fun _ => rfl, fun _ => rfl, fun _ => rfl, fun _ => rfl, fun _ => rfl, fun _ => rfl, fun _ => rfl, fun _ => rfl, fun _ => rfl⟩
set_option maxRecDepth 100000 in
theorem gd_X5_endArcs : mGood MX5_endArcs := ⟨by decide +kernel, by decide +kernel, by decide +kernel⟩
set_option maxRecDepth 100000 in
set_option maxHeartbeats 4000000 in
theorem ft_X5_walk : (∀ f : mE → Prop, w_o (mft MX5_walk 0) f = f (.aload_n 0, 1, 0, 0, 0, 0, 0)) ∧
  (∀ f : mE → Prop, w_o (mft MX5_walk 1) f = f (.getfield 47, 4, 5, 9, 0, 0, 0)) ∧
  (∀ f : mE → Prop, w_o (mft MX5_walk 4) f = f (.istore_n 2, 5, 2, 0, 0, 0, 0)) ∧
  (∀ f : mE → Prop, w_o (mft MX5_walk 5) f = f (.aload_n 0, 6, 0, 0, 0, 0, 0)) ∧
  (∀ f : mE → Prop, w_o (mft MX5_walk 6) f = f (.dup, 7, 0, 0, 0, 0, 0)) ∧
  (∀ f : mE → Prop, w_o (mft MX5_walk 7) f = f (.getfield 47, 10, 5, 9, 0, 0, 0)) ∧
  (∀ f : mE → Prop, w_o (mft MX5_walk 10) f = f (.iconst 1, 11, 0, 0, 0, (1), 0)) ∧
  (∀ f : mE → Prop, w_o (mft MX5_walk 11) f = f (.iadd, 12, 0, 0, 0, 0, 0)) ∧
  (∀ f : mE → Prop, w_o (mft MX5_walk 12) f = f (.putfield 47, 15, 5, 9, 0, 0, 0)) ∧
  (∀ f : mE → Prop, w_o (mft MX5_walk 15) f = f (.aload_n 0, 16, 0, 0, 0, 0, 0)) ∧
  (∀ f : mE → Prop, w_o (mft MX5_walk 16) f = f (.getfield 50, 19, 5, 10, 0, 0, 0)) ∧
  (∀ f : mE → Prop, w_o (mft MX5_walk 19) f = f (.iload_n 2, 20, 2, 0, 0, 0, 0)) ∧
  (∀ f : mE → Prop, w_o (mft MX5_walk 20) f = f (.aload_n 0, 21, 0, 0, 0, 0, 0)) ∧
  (∀ f : mE → Prop, w_o (mft MX5_walk 21) f = f (.getfield 23, 24, 5, 2, 0, 0, 0)) ∧
  (∀ f : mE → Prop, w_o (mft MX5_walk 24) f = f (.iload_n 1, 25, 1, 0, 0, 0, 0)) ∧
  (∀ f : mE → Prop, w_o (mft MX5_walk 25) f = f (.iaload, 26, 0, 0, 0, 0, 0)) ∧
  (∀ f : mE → Prop, w_o (mft MX5_walk 26) f = f (.iastore, 27, 0, 0, 0, 0, 0)) ∧
  (∀ f : mE → Prop, w_o (mft MX5_walk 27) f = f (.aload_n 0, 28, 0, 0, 0, 0, 0)) ∧
  (∀ f : mE → Prop, w_o (mft MX5_walk 28) f = f (.getfield 53, 31, 5, 11, 0, 0, 0)) ∧
  (∀ f : mE → Prop, w_o (mft MX5_walk 31) f = f (.iload_n 2, 32, 2, 0, 0, 0, 0)) ∧
  (∀ f : mE → Prop, w_o (mft MX5_walk 32) f = f (.iconst 0, 33, 0, 0, 0, (0), 0)) ∧
  (∀ f : mE → Prop, w_o (mft MX5_walk 33) f = f (.iastore, 34, 0, 0, 0, 0, 0)) ∧
  (∀ f : mE → Prop, w_o (mft MX5_walk 34) f = f (.aload_n 0, 35, 0, 0, 0, 0, 0)) ∧
  (∀ f : mE → Prop, w_o (mft MX5_walk 35) f = f (.getfield 56, 38, 5, 12, 0, 0, 0)) ∧
  (∀ f : mE → Prop, w_o (mft MX5_walk 38) f = f (.iload_n 2, 39, 2, 0, 0, 0, 0)) ∧
  (∀ f : mE → Prop, w_o (mft MX5_walk 39) f = f (.iconst 0, 40, 0, 0, 0, (0), 0)) ∧
  (∀ f : mE → Prop, w_o (mft MX5_walk 40) f = f (.iastore, 41, 0, 0, 0, 0, 0)) ∧
  (∀ f : mE → Prop, w_o (mft MX5_walk 41) f = f (.iload_n 1, 42, 1, 0, 0, 0, 0)) ∧
  (∀ f : mE → Prop, w_o (mft MX5_walk 42) f = f (.istore_n 3, 43, 3, 0, 0, 0, 0)) ∧
  (∀ f : mE → Prop, w_o (mft MX5_walk 43) f = f (.iconst 0, 44, 0, 0, 0, (0), 0)) ∧
  (∀ f : mE → Prop, w_o (mft MX5_walk 44) f = f (.istore 4, 46, 4, 0, 0, 0, 0)) ∧
  (∀ f : mE → Prop, w_o (mft MX5_walk 46) f = f (.iconst 0, 47, 0, 0, 0, (0), 0)) ∧
  (∀ f : mE → Prop, w_o (mft MX5_walk 47) f = f (.istore 5, 49, 5, 0, 0, 0, 0)) ∧
  (∀ f : mE → Prop, w_o (mft MX5_walk 49) f = f (.iload 5, 51, 5, 0, 0, 0, 0)) ∧
  (∀ f : mE → Prop, w_o (mft MX5_walk 51) f = f (.bipush 15, 53, 0, 0, 0, (15), 0)) ∧
  (∀ f : mE → Prop, w_o (mft MX5_walk 53) f = f (.if_icmp .ge 86, 56, 139, 0, 0, 0, 0)) ∧
  (∀ f : mE → Prop, w_o (mft MX5_walk 56) f = f (.aload_n 0, 57, 0, 0, 0, 0, 0)) ∧
  (∀ f : mE → Prop, w_o (mft MX5_walk 57) f = f (.iload_n 3, 58, 3, 0, 0, 0, 0)) ∧
  (∀ f : mE → Prop, w_o (mft MX5_walk 58) f = f (.iload_n 2, 59, 2, 0, 0, 0, 0)) ∧
  (∀ f : mE → Prop, w_o (mft MX5_walk 59) f = f (.iconst 1, 60, 0, 0, 0, (1), 0)) ∧
  (∀ f : mE → Prop, w_o (mft MX5_walk 60) f = f (.iload 4, 62, 4, 0, 0, 0, 0)) ∧
  (∀ f : mE → Prop, w_o (mft MX5_walk 62) f = f (.invokevirtual 92, 65, 62, 4, 5, 0, 0)) ∧
  (∀ f : mE → Prop, w_o (mft MX5_walk 65) f = f (.iload 4, 67, 4, 0, 0, 0, 0)) ∧
  (∀ f : mE → Prop, w_o (mft MX5_walk 67) f = f (.aload_n 0, 68, 0, 0, 0, 0, 0)) ∧
  (∀ f : mE → Prop, w_o (mft MX5_walk 68) f = f (.iload_n 2, 69, 2, 0, 0, 0, 0)) ∧
  (∀ f : mE → Prop, w_o (mft MX5_walk 69) f = f (.aload_n 0, 70, 0, 0, 0, 0, 0)) ∧
  (∀ f : mE → Prop, w_o (mft MX5_walk 70) f = f (.getfield 30, 73, 5, 4, 0, 0, 0)) ∧
  (∀ f : mE → Prop, w_o (mft MX5_walk 73) f = f (.iload_n 3, 74, 3, 0, 0, 0, 0)) ∧
  (∀ f : mE → Prop, w_o (mft MX5_walk 74) f = f (.baload, 75, 2, 0, 0, 0, 0)) ∧
  (∀ f : mE → Prop, w_o (mft MX5_walk 75) f = f (.invokevirtual 96, 78, 63, 2, 5, 0, 0)) ∧
  (∀ f : mE → Prop, w_o (mft MX5_walk 78) f = f (.iadd, 79, 0, 0, 0, 0, 0)) ∧
  (∀ f : mE → Prop, w_o (mft MX5_walk 79) f = f (.istore 4, 81, 4, 0, 0, 0, 0)) ∧
  (∀ f : mE → Prop, w_o (mft MX5_walk 81) f = f (.aload_n 0, 82, 0, 0, 0, 0, 0)) ∧
  (∀ f : mE → Prop, w_o (mft MX5_walk 82) f = f (.getfield 27, 85, 5, 3, 0, 0, 0)) ∧
  (∀ f : mE → Prop, w_o (mft MX5_walk 85) f = f (.iload_n 3, 86, 3, 0, 0, 0, 0)) ∧
  (∀ f : mE → Prop, w_o (mft MX5_walk 86) f = f (.iaload, 87, 0, 0, 0, 0, 0)) ∧
  (∀ f : mE → Prop, w_o (mft MX5_walk 87) f = f (.istore 6, 89, 6, 0, 0, 0, 0)) ∧
  (∀ f : mE → Prop, w_o (mft MX5_walk 89) f = f (.aload_n 0, 90, 0, 0, 0, 0, 0)) ∧
  (∀ f : mE → Prop, w_o (mft MX5_walk 90) f = f (.iload 6, 92, 6, 0, 0, 0, 0)) ∧
  (∀ f : mE → Prop, w_o (mft MX5_walk 92) f = f (.iload_n 2, 93, 2, 0, 0, 0, 0)) ∧
  (∀ f : mE → Prop, w_o (mft MX5_walk 93) f = f (.iconst 0, 94, 0, 0, 0, (0), 0)) ∧
  (∀ f : mE → Prop, w_o (mft MX5_walk 94) f = f (.iload 4, 96, 4, 0, 0, 0, 0)) ∧
  (∀ f : mE → Prop, w_o (mft MX5_walk 96) f = f (.invokevirtual 92, 99, 62, 4, 5, 0, 0)) ∧
  (∀ f : mE → Prop, w_o (mft MX5_walk 99) f = f (.iload 4, 101, 4, 0, 0, 0, 0)) ∧
  (∀ f : mE → Prop, w_o (mft MX5_walk 101) f = f (.aload_n 0, 102, 0, 0, 0, 0, 0)) ∧
  (∀ f : mE → Prop, w_o (mft MX5_walk 102) f = f (.iload_n 2, 103, 2, 0, 0, 0, 0)) ∧
  (∀ f : mE → Prop, w_o (mft MX5_walk 103) f = f (.iload 6, 105, 6, 0, 0, 0, 0)) ∧
  (∀ f : mE → Prop, w_o (mft MX5_walk 105) f = f (.iconst 1, 106, 0, 0, 0, (1), 0)) ∧
  (∀ f : mE → Prop, w_o (mft MX5_walk 106) f = f (.iand, 107, 0, 0, 0, 0, 0)) ∧
  (∀ f : mE → Prop, w_o (mft MX5_walk 107) f = f (.iconst 1, 108, 0, 0, 0, (1), 0)) ∧
  (∀ f : mE → Prop, w_o (mft MX5_walk 108) f = f (.if_icmp .ne 7, 111, 115, 0, 0, 0, 0)) ∧
  (∀ f : mE → Prop, w_o (mft MX5_walk 111) f = f (.iconst 1, 112, 0, 0, 0, (1), 0)) ∧
  (∀ f : mE → Prop, w_o (mft MX5_walk 112) f = f (.goto 4, 115, 116, 0, 0, 0, 0)) ∧
  (∀ f : mE → Prop, w_o (mft MX5_walk 115) f = f (.iconst 0, 116, 0, 0, 0, (0), 0)) ∧
  (∀ f : mE → Prop, w_o (mft MX5_walk 116) f = f (.invokevirtual 96, 119, 63, 2, 5, 0, 0)) ∧
  (∀ f : mE → Prop, w_o (mft MX5_walk 119) f = f (.iadd, 120, 0, 0, 0, 0, 0)) ∧
  (∀ f : mE → Prop, w_o (mft MX5_walk 120) f = f (.istore 4, 122, 4, 0, 0, 0, 0)) ∧
  (∀ f : mE → Prop, w_o (mft MX5_walk 122) f = f (.iload 6, 124, 6, 0, 0, 0, 0)) ∧
  (∀ f : mE → Prop, w_o (mft MX5_walk 124) f = f (.iconst 1, 125, 0, 0, 0, (1), 0)) ∧
  (∀ f : mE → Prop, w_o (mft MX5_walk 125) f = f (.ixor, 126, 0, 0, 0, 0, 0)) ∧
  (∀ f : mE → Prop, w_o (mft MX5_walk 126) f = f (.istore_n 3, 127, 3, 0, 0, 0, 0)) ∧
  (∀ f : mE → Prop, w_o (mft MX5_walk 127) f = f (.iload_n 3, 128, 3, 0, 0, 0, 0)) ∧
  (∀ f : mE → Prop, w_o (mft MX5_walk 128) f = f (.iload_n 1, 129, 1, 0, 0, 0, 0)) ∧
  (∀ f : mE → Prop, w_o (mft MX5_walk 129) f = f (.if_icmp .ne 4, 132, 133, 0, 0, 0, 0)) ∧
  (∀ f : mE → Prop, w_o (mft MX5_walk 132) f = f (.return_, 133, 0, 0, 0, 0, 0)) ∧
  (∀ f : mE → Prop, w_o (mft MX5_walk 133) f = f (.iinc 5 1, 136, 5, 0, 0, (1), 0)) ∧
  (∀ f : mE → Prop, w_o (mft MX5_walk 136) f = f (.goto (-87), 139, 49, 0, 0, 0, 0)) ∧
  (∀ f : mE → Prop, w_o (mft MX5_walk 139) f = f (.return_, 140, 0, 0, 0, 0, 0)) := ⟨fun _ => rfl, fun _ => rfl, fun _ => rfl, fun _ => rfl, fun _ => rfl, fun _ => rfl, fun _ => rfl, fun _ => rfl, fun _ => rfl, fun _ => rfl, fun _ => rfl, fun _ => rfl, fun _ => rfl, fun _ => rfl, fun _ => rfl, fun _ => rfl, fun _ => rfl, fun _ => rfl, fun _ => rfl, fun _ => rfl, fun _ => rfl, fun _ => rfl, fun _ => rfl, fun _ => rfl, fun _ => rfl, fun _ => rfl, fun _ => rfl, fun _ => rfl, fun _ => rfl, fun _ => rfl, fun _ => rfl, fun _ => rfl, fun _ => rfl, fun _ => rfl, fun _ => rfl, fun _ => rfl, fun _ => rfl, fun _ => rfl, fun _ => rfl, fun _ => rfl, fun _ => rfl, fun _ => rfl, fun _ => rfl, fun _ => rfl, fun _ => rfl, fun _ => rfl, fun _ => rfl, fun _ => rfl, fun _ => rfl, fun _ => rfl, fun _ => rfl, fun _ => rfl, fun _ => rfl, fun _ => rfl, fun _ => rfl, fun _ => rfl, fun _ => rfl, fun _ => rfl, fun _ => rfl, fun _ => rfl, fun _ => rfl, fun _ => rfl, fun _ => rfl, fun _ => rfl, fun _ => rfl, fun _ => rfl, fun _ => rfl, fun _ => rfl, fun _ => rfl, fun _ => rfl, fun _ => rfl, fun _ => rfl, fun _ => rfl, fun _ => rfl, fun _ => rfl, fun _ => rfl, fun _ => rfl, fun _ => rfl, fun _ => rfl, fun _ => rfl, fun _ => rfl, fun _ => rfl, fun _ => rfl, fun _ => rfl, fun _ => rfl, fun _ => rfl, fun _ => rfl, fun _ => rfl⟩
set_option maxRecDepth 100000 in
theorem gd_X5_walk : mGood MX5_walk := ⟨by decide +kernel, by decide +kernel, by decide +kernel⟩
set_option maxRecDepth 100000 in
set_option maxHeartbeats 4000000 in
theorem ft_X5_mark : (∀ f : mE → Prop, w_o (mft MX5_mark 0) f = f (.aload_n 0, 1, 0, 0, 0, 0, 0)) ∧
  (∀ f : mE → Prop, w_o (mft MX5_mark 1) f = f (.getfield 34, 4, 5, 5, 0, 0, 0)) ∧
  (∀ f : mE → Prop, w_o (mft MX5_mark 4) f = f (.iload_n 1, 5, 1, 0, 0, 0, 0)) ∧
  (∀ f : mE → Prop, w_o (mft MX5_mark 5) f = f (.iload_n 2, 6, 2, 0, 0, 0, 0)) ∧
  (∀ f : mE → Prop, w_o (mft MX5_mark 6) f = f (.iastore, 7, 0, 0, 0, 0, 0)) ∧
  (∀ f : mE → Prop, w_o (mft MX5_mark 7) f = f (.aload_n 0, 8, 0, 0, 0, 0, 0)) ∧
  (∀ f : mE → Prop, w_o (mft MX5_mark 8) f = f (.getfield 37, 11, 5, 6, 0, 0, 0)) ∧
  (∀ f : mE → Prop, w_o (mft MX5_mark 11) f = f (.iload_n 1, 12, 1, 0, 0, 0, 0)) ∧
  (∀ f : mE → Prop, w_o (mft MX5_mark 12) f = f (.iload_n 3, 13, 3, 0, 0, 0, 0)) ∧
  (∀ f : mE → Prop, w_o (mft MX5_mark 13) f = f (.bastore, 14, 2, 0, 0, 0, 0)) ∧
  (∀ f : mE → Prop, w_o (mft MX5_mark 14) f = f (.aload_n 0, 15, 0, 0, 0, 0, 0)) ∧
  (∀ f : mE → Prop, w_o (mft MX5_mark 15) f = f (.getfield 40, 18, 5, 7, 0, 0, 0)) ∧
  (∀ f : mE → Prop, w_o (mft MX5_mark 18) f = f (.iload_n 1, 19, 1, 0, 0, 0, 0)) ∧
  (∀ f : mE → Prop, w_o (mft MX5_mark 19) f = f (.iload 4, 21, 4, 0, 0, 0, 0)) ∧
  (∀ f : mE → Prop, w_o (mft MX5_mark 21) f = f (.iastore, 22, 0, 0, 0, 0, 0)) ∧
  (∀ f : mE → Prop, w_o (mft MX5_mark 22) f = f (.return_, 23, 0, 0, 0, 0, 0)) := ⟨fun _ => rfl, fun _ => rfl, fun _ => rfl, fun _ => rfl, fun _ => rfl, fun _ => rfl, fun _ => rfl, fun _ => rfl, fun _ => rfl, fun _ => rfl, fun _ => rfl, fun _ => rfl, fun _ => rfl, fun _ => rfl, fun _ => rfl, fun _ => rfl⟩
set_option maxRecDepth 100000 in
theorem gd_X5_mark : mGood MX5_mark := ⟨by decide +kernel, by decide +kernel, by decide +kernel⟩
set_option maxRecDepth 100000 in
set_option maxHeartbeats 4000000 in
theorem ft_X5_turnCorner : (∀ f : mE → Prop, w_o (mft MX5_turnCorner 0) f = f (.iload_n 2, 1, 2, 0, 0, 0, 0)) ∧
  (∀ f : mE → Prop, w_o (mft MX5_turnCorner 1) f = f (.ifCond .eq 15, 4, 16, 0, 0, 0, 0)) ∧
  (∀ f : mE → Prop, w_o (mft MX5_turnCorner 4) f = f (.aload_n 0, 5, 0, 0, 0, 0, 0)) ∧
  (∀ f : mE → Prop, w_o (mft MX5_turnCorner 5) f = f (.getfield 53, 8, 5, 11, 0, 0, 0)) ∧
  (∀ f : mE → Prop, w_o (mft MX5_turnCorner 8) f = f (.iload_n 1, 9, 1, 0, 0, 0, 0)) ∧
  (∀ f : mE → Prop, w_o (mft MX5_turnCorner 9) f = f (.dup2, 10, 0, 0, 0, 0, 0)) ∧
  (∀ f : mE → Prop, w_o (mft MX5_turnCorner 10) f = f (.iaload, 11, 0, 0, 0, 0, 0)) ∧
  (∀ f : mE → Prop, w_o (mft MX5_turnCorner 11) f = f (.iconst 1, 12, 0, 0, 0, (1), 0)) ∧
  (∀ f : mE → Prop, w_o (mft MX5_turnCorner 12) f = f (.iadd, 13, 0, 0, 0, 0, 0)) ∧
  (∀ f : mE → Prop, w_o (mft MX5_turnCorner 13) f = f (.iastore, 14, 0, 0, 0, 0, 0)) ∧
  (∀ f : mE → Prop, w_o (mft MX5_turnCorner 14) f = f (.iconst (-1), 15, 0, 0, 0, (-1), 0)) ∧
  (∀ f : mE → Prop, w_o (mft MX5_turnCorner 15) f = f (.ireturn, 16, 0, 0, 0, 0, 0)) ∧
  (∀ f : mE → Prop, w_o (mft MX5_turnCorner 16) f = f (.aload_n 0, 17, 0, 0, 0, 0, 0)) ∧
  (∀ f : mE → Prop, w_o (mft MX5_turnCorner 17) f = f (.getfield 56, 20, 5, 12, 0, 0, 0)) ∧
  (∀ f : mE → Prop, w_o (mft MX5_turnCorner 20) f = f (.iload_n 1, 21, 1, 0, 0, 0, 0)) ∧
  (∀ f : mE → Prop, w_o (mft MX5_turnCorner 21) f = f (.dup2, 22, 0, 0, 0, 0, 0)) ∧
  (∀ f : mE → Prop, w_o (mft MX5_turnCorner 22) f = f (.iaload, 23, 0, 0, 0, 0, 0)) ∧
  (∀ f : mE → Prop, w_o (mft MX5_turnCorner 23) f = f (.iconst 1, 24, 0, 0, 0, (1), 0)) ∧
  (∀ f : mE → Prop, w_o (mft MX5_turnCorner 24) f = f (.iadd, 25, 0, 0, 0, 0, 0)) ∧
  (∀ f : mE → Prop, w_o (mft MX5_turnCorner 25) f = f (.iastore, 26, 0, 0, 0, 0, 0)) ∧
  (∀ f : mE → Prop, w_o (mft MX5_turnCorner 26) f = f (.iconst 1, 27, 0, 0, 0, (1), 0)) ∧
  (∀ f : mE → Prop, w_o (mft MX5_turnCorner 27) f = f (.ireturn, 28, 0, 0, 0, 0, 0)) := ⟨fun _ => rfl, fun _ => rfl, fun _ => rfl, fun _ => rfl, fun _ => rfl, fun _ => rfl, fun _ => rfl, fun _ => rfl, fun _ => rfl, fun _ => rfl, fun _ => rfl, fun _ => rfl, fun _ => rfl, fun _ => rfl, fun _ => rfl, fun _ => rfl, fun _ => rfl, fun _ => rfl, fun _ => rfl, fun _ => rfl, fun _ => rfl, fun _ => rfl⟩
set_option maxRecDepth 100000 in
theorem gd_X5_turnCorner : mGood MX5_turnCorner := ⟨by decide +kernel, by decide +kernel, by decide +kernel⟩
set_option maxRecDepth 100000 in
set_option maxHeartbeats 4000000 in
theorem ft_X5_isPiece : (∀ f : mE → Prop, w_o (mft MX5_isPiece 0) f = f (.iload_n 1, 1, 1, 0, 0, 0, 0)) ∧
  (∀ f : mE → Prop, w_o (mft MX5_isPiece 1) f = f (.ifCond .lt 15, 4, 16, 0, 0, 0, 0)) ∧
  (∀ f : mE → Prop, w_o (mft MX5_isPiece 4) f = f (.iload_n 1, 5, 1, 0, 0, 0, 0)) ∧
  (∀ f : mE → Prop, w_o (mft MX5_isPiece 5) f = f (.aload_n 0, 6, 0, 0, 0, 0, 0)) ∧
  (∀ f : mE → Prop, w_o (mft MX5_isPiece 6) f = f (.getfield 47, 9, 5, 9, 0, 0, 0)) ∧
  (∀ f : mE → Prop, w_o (mft MX5_isPiece 9) f = f (.if_icmp .ge 7, 12, 16, 0, 0, 0, 0)) ∧
  (∀ f : mE → Prop, w_o (mft MX5_isPiece 12) f = f (.iconst 1, 13, 0, 0, 0, (1), 0)) ∧
  (∀ f : mE → Prop, w_o (mft MX5_isPiece 13) f = f (.goto 4, 16, 17, 0, 0, 0, 0)) ∧
  (∀ f : mE → Prop, w_o (mft MX5_isPiece 16) f = f (.iconst 0, 17, 0, 0, 0, (0), 0)) ∧
  (∀ f : mE → Prop, w_o (mft MX5_isPiece 17) f = f (.ireturn, 18, 0, 0, 1, 0, 0)) := ⟨fun _ => rfl, fun _ => rfl, fun _ => rfl, fun _ => rfl, fun _ => rfl, fun _ => rfl, fun _ => rfl, fun _ => rfl, fun _ => rfl, fun _ => rfl⟩
set_option maxRecDepth 100000 in
theorem gd_X5_isPiece : mGood MX5_isPiece := ⟨by decide +kernel, by decide +kernel, by decide +kernel⟩
set_option maxRecDepth 100000 in
set_option maxHeartbeats 4000000 in
theorem ft_X5_pieceAt : (∀ f : mE → Prop, w_o (mft MX5_pieceAt 0) f = f (.aload_n 0, 1, 0, 0, 0, 0, 0)) ∧
  (∀ f : mE → Prop, w_o (mft MX5_pieceAt 1) f = f (.getfield 34, 4, 5, 5, 0, 0, 0)) ∧
  (∀ f : mE → Prop, w_o (mft MX5_pieceAt 4) f = f (.aload_n 0, 5, 0, 0, 0, 0, 0)) ∧
  (∀ f : mE → Prop, w_o (mft MX5_pieceAt 5) f = f (.getfield 20, 8, 5, 1, 0, 0, 0)) ∧
  (∀ f : mE → Prop, w_o (mft MX5_pieceAt 8) f = f (.iload_n 1, 9, 1, 0, 0, 0, 0)) ∧
  (∀ f : mE → Prop, w_o (mft MX5_pieceAt 9) f = f (.aaload, 10, 3, 0, 0, 0, 0)) ∧
  (∀ f : mE → Prop, w_o (mft MX5_pieceAt 10) f = f (.iload_n 2, 11, 2, 0, 0, 0, 0)) ∧
  (∀ f : mE → Prop, w_o (mft MX5_pieceAt 11) f = f (.iaload, 12, 0, 0, 0, 0, 0)) ∧
  (∀ f : mE → Prop, w_o (mft MX5_pieceAt 12) f = f (.iaload, 13, 0, 0, 0, 0, 0)) ∧
  (∀ f : mE → Prop, w_o (mft MX5_pieceAt 13) f = f (.ireturn, 14, 0, 0, 0, 0, 0)) := ⟨fun _ => rfl, fun _ => rfl, fun _ => rfl, fun _ => rfl, fun _ => rfl, fun _ => rfl, fun _ => rfl, fun _ => rfl, fun _ => rfl, fun _ => rfl⟩
set_option maxRecDepth 100000 in
theorem gd_X5_pieceAt : mGood MX5_pieceAt := ⟨by decide +kernel, by decide +kernel, by decide +kernel⟩
set_option maxRecDepth 100000 in
set_option maxHeartbeats 4000000 in
theorem ft_X5_lowerArc : (∀ f : mE → Prop, w_o (mft MX5_lowerArc 0) f = f (.aload_n 0, 1, 0, 0, 0, 0, 0)) ∧
  (∀ f : mE → Prop, w_o (mft MX5_lowerArc 1) f = f (.getfield 20, 4, 5, 1, 0, 0, 0)) ∧
  (∀ f : mE → Prop, w_o (mft MX5_lowerArc 4) f = f (.iload_n 1, 5, 1, 0, 0, 0, 0)) ∧
  (∀ f : mE → Prop, w_o (mft MX5_lowerArc 5) f = f (.aaload, 6, 3, 0, 0, 0, 0)) ∧
  (∀ f : mE → Prop, w_o (mft MX5_lowerArc 6) f = f (.aload_n 0, 7, 0, 0, 0, 0, 0)) ∧
  (∀ f : mE → Prop, w_o (mft MX5_lowerArc 7) f = f (.getfield 12, 10, 5, 0, 0, 0, 0)) ∧
  (∀ f : mE → Prop, w_o (mft MX5_lowerArc 10) f = f (.getfield 69, 13, 0, 1, 0, 0, 0)) ∧
  (∀ f : mE → Prop, w_o (mft MX5_lowerArc 13) f = f (.iload_n 1, 14, 1, 0, 0, 0, 0)) ∧
  (∀ f : mE → Prop, w_o (mft MX5_lowerArc 14) f = f (.iaload, 15, 0, 0, 0, 0, 0)) ∧
  (∀ f : mE → Prop, w_o (mft MX5_lowerArc 15) f = f (.iaload, 16, 0, 0, 0, 0, 0)) ∧
  (∀ f : mE → Prop, w_o (mft MX5_lowerArc 16) f = f (.ireturn, 17, 0, 0, 0, 0, 0)) := ⟨fun _ => rfl, fun _ => rfl, fun _ => rfl, fun _ => rfl, fun _ => rfl, fun _ => rfl, fun _ => rfl, fun _ => rfl, fun _ => rfl, fun _ => rfl, fun _ => rfl⟩
set_option maxRecDepth 100000 in
theorem gd_X5_lowerArc : mGood MX5_lowerArc := ⟨by decide +kernel, by decide +kernel, by decide +kernel⟩
set_option maxRecDepth 100000 in
set_option maxHeartbeats 4000000 in
theorem ft_X5_upperArc : (∀ f : mE → Prop, w_o (mft MX5_upperArc 0) f = f (.aload_n 0, 1, 0, 0, 0, 0, 0)) ∧
  (∀ f : mE → Prop, w_o (mft MX5_upperArc 1) f = f (.getfield 20, 4, 5, 1, 0, 0, 0)) ∧
  (∀ f : mE → Prop, w_o (mft MX5_upperArc 4) f = f (.iload_n 1, 5, 1, 0, 0, 0, 0)) ∧
  (∀ f : mE → Prop, w_o (mft MX5_upperArc 5) f = f (.aaload, 6, 3, 0, 0, 0, 0)) ∧
  (∀ f : mE → Prop, w_o (mft MX5_upperArc 6) f = f (.aload_n 0, 7, 0, 0, 0, 0, 0)) ∧
  (∀ f : mE → Prop, w_o (mft MX5_upperArc 7) f = f (.getfield 12, 10, 5, 0, 0, 0, 0)) ∧
  (∀ f : mE → Prop, w_o (mft MX5_upperArc 10) f = f (.getfield 69, 13, 0, 1, 0, 0, 0)) ∧
  (∀ f : mE → Prop, w_o (mft MX5_upperArc 13) f = f (.iload_n 1, 14, 1, 0, 0, 0, 0)) ∧
  (∀ f : mE → Prop, w_o (mft MX5_upperArc 14) f = f (.iaload, 15, 0, 0, 0, 0, 0)) ∧
  (∀ f : mE → Prop, w_o (mft MX5_upperArc 15) f = f (.iconst 1, 16, 0, 0, 0, (1), 0)) ∧
  (∀ f : mE → Prop, w_o (mft MX5_upperArc 16) f = f (.iadd, 17, 0, 0, 0, 0, 0)) ∧
  (∀ f : mE → Prop, w_o (mft MX5_upperArc 17) f = f (.iaload, 18, 0, 0, 0, 0, 0)) ∧
  (∀ f : mE → Prop, w_o (mft MX5_upperArc 18) f = f (.ireturn, 19, 0, 0, 0, 0, 0)) := ⟨fun _ => rfl, fun _ => rfl, fun _ => rfl, fun _ => rfl, fun _ => rfl, fun _ => rfl, fun _ => rfl, fun _ => rfl, fun _ => rfl, fun _ => rfl, fun _ => rfl, fun _ => rfl, fun _ => rfl⟩
set_option maxRecDepth 100000 in
theorem gd_X5_upperArc : mGood MX5_upperArc := ⟨by decide +kernel, by decide +kernel, by decide +kernel⟩
set_option maxRecDepth 100000 in
set_option maxHeartbeats 4000000 in
theorem ft_X5_isPlus : (∀ f : mE → Prop, w_o (mft MX5_isPlus 0) f = f (.aload_n 0, 1, 0, 0, 0, 0, 0)) ∧
  (∀ f : mE → Prop, w_o (mft MX5_isPlus 1) f = f (.getfield 37, 4, 5, 6, 0, 0, 0)) ∧
  (∀ f : mE → Prop, w_o (mft MX5_isPlus 4) f = f (.aload_n 0, 5, 0, 0, 0, 0, 0)) ∧
  (∀ f : mE → Prop, w_o (mft MX5_isPlus 5) f = f (.iload_n 1, 6, 1, 0, 0, 0, 0)) ∧
  (∀ f : mE → Prop, w_o (mft MX5_isPlus 6) f = f (.invokevirtual 100, 9, 66, 1, 5, 0, 0)) ∧
  (∀ f : mE → Prop, w_o (mft MX5_isPlus 9) f = f (.baload, 10, 2, 0, 0, 0, 0)) ∧
  (∀ f : mE → Prop, w_o (mft MX5_isPlus 10) f = f (.aload_n 0, 11, 0, 0, 0, 0, 0)) ∧
  (∀ f : mE → Prop, w_o (mft MX5_isPlus 11) f = f (.getfield 37, 14, 5, 6, 0, 0, 0)) ∧
  (∀ f : mE → Prop, w_o (mft MX5_isPlus 14) f = f (.aload_n 0, 15, 0, 0, 0, 0, 0)) ∧
  (∀ f : mE → Prop, w_o (mft MX5_isPlus 15) f = f (.iload_n 1, 16, 1, 0, 0, 0, 0)) ∧
  (∀ f : mE → Prop, w_o (mft MX5_isPlus 16) f = f (.invokevirtual 104, 19, 67, 1, 5, 0, 0)) ∧
  (∀ f : mE → Prop, w_o (mft MX5_isPlus 19) f = f (.baload, 20, 2, 0, 0, 0, 0)) ∧
  (∀ f : mE → Prop, w_o (mft MX5_isPlus 20) f = f (.if_icmp .ne 7, 23, 27, 0, 0, 0, 0)) ∧
  (∀ f : mE → Prop, w_o (mft MX5_isPlus 23) f = f (.iconst 1, 24, 0, 0, 0, (1), 0)) ∧
  (∀ f : mE → Prop, w_o (mft MX5_isPlus 24) f = f (.goto 4, 27, 28, 0, 0, 0, 0)) ∧
  (∀ f : mE → Prop, w_o (mft MX5_isPlus 27) f = f (.iconst 0, 28, 0, 0, 0, (0), 0)) ∧
  (∀ f : mE → Prop, w_o (mft MX5_isPlus 28) f = f (.ireturn, 29, 0, 0, 1, 0, 0)) := ⟨fun _ => rfl, fun _ => rfl, fun _ => rfl, fun _ => rfl, fun _ => rfl, fun _ => rfl, fun _ => rfl, fun _ => rfl, fun _ => rfl, fun _ => rfl, fun _ => rfl, fun _ => rfl, fun _ => rfl, fun _ => rfl, fun _ => rfl, fun _ => rfl, fun _ => rfl⟩
set_option maxRecDepth 100000 in
theorem gd_X5_isPlus : mGood MX5_isPlus := ⟨by decide +kernel, by decide +kernel, by decide +kernel⟩
set_option maxRecDepth 100000 in
set_option maxHeartbeats 4000000 in
theorem ft_X5_plusCrosses : (∀ f : mE → Prop, w_o (mft MX5_plusCrosses 0) f = f (.iconst 0, 1, 0, 0, 0, (0), 0)) ∧
  (∀ f : mE → Prop, w_o (mft MX5_plusCrosses 1) f = f (.istore_n 1, 2, 1, 0, 0, 0, 0)) ∧
  (∀ f : mE → Prop, w_o (mft MX5_plusCrosses 2) f = f (.iconst 0, 3, 0, 0, 0, (0), 0)) ∧
  (∀ f : mE → Prop, w_o (mft MX5_plusCrosses 3) f = f (.istore_n 2, 4, 2, 0, 0, 0, 0)) ∧
  (∀ f : mE → Prop, w_o (mft MX5_plusCrosses 4) f = f (.iload_n 2, 5, 2, 0, 0, 0, 0)) ∧
  (∀ f : mE → Prop, w_o (mft MX5_plusCrosses 5) f = f (.aload_n 0, 6, 0, 0, 0, 0, 0)) ∧
  (∀ f : mE → Prop, w_o (mft MX5_plusCrosses 6) f = f (.getfield 12, 9, 5, 0, 0, 0, 0)) ∧
  (∀ f : mE → Prop, w_o (mft MX5_plusCrosses 9) f = f (.getfield 66, 12, 0, 3, 0, 0, 0)) ∧
  (∀ f : mE → Prop, w_o (mft MX5_plusCrosses 12) f = f (.if_icmp .ge 33, 15, 45, 0, 0, 0, 0)) ∧
  (∀ f : mE → Prop, w_o (mft MX5_plusCrosses 15) f = f (.aload_n 0, 16, 0, 0, 0, 0, 0)) ∧
  (∀ f : mE → Prop, w_o (mft MX5_plusCrosses 16) f = f (.getfield 12, 19, 5, 0, 0, 0, 0)) ∧
  (∀ f : mE → Prop, w_o (mft MX5_plusCrosses 19) f = f (.getfield 75, 22, 0, 0, 0, 0, 0)) ∧
  (∀ f : mE → Prop, w_o (mft MX5_plusCrosses 22) f = f (.iload_n 2, 23, 2, 0, 0, 0, 0)) ∧
  (∀ f : mE → Prop, w_o (mft MX5_plusCrosses 23) f = f (.iaload, 24, 0, 0, 0, 0, 0)) ∧
  (∀ f : mE → Prop, w_o (mft MX5_plusCrosses 24) f = f (.iconst 1, 25, 0, 0, 0, (1), 0)) ∧
  (∀ f : mE → Prop, w_o (mft MX5_plusCrosses 25) f = f (.if_icmp .ne 14, 28, 39, 0, 0, 0, 0)) ∧
  (∀ f : mE → Prop, w_o (mft MX5_plusCrosses 28) f = f (.aload_n 0, 29, 0, 0, 0, 0, 0)) ∧
  (∀ f : mE → Prop, w_o (mft MX5_plusCrosses 29) f = f (.iload_n 2, 30, 2, 0, 0, 0, 0)) ∧
  (∀ f : mE → Prop, w_o (mft MX5_plusCrosses 30) f = f (.invokevirtual 107, 33, 68, 1, 5, 0, 0)) ∧
  (∀ f : mE → Prop, w_o (mft MX5_plusCrosses 33) f = f (.ifCond .eq 6, 36, 39, 0, 0, 0, 0)) ∧
  (∀ f : mE → Prop, w_o (mft MX5_plusCrosses 36) f = f (.iinc 1 1, 39, 1, 0, 0, (1), 0)) ∧
  (∀ f : mE → Prop, w_o (mft MX5_plusCrosses 39) f = f (.iinc 2 1, 42, 2, 0, 0, (1), 0)) ∧
  (∀ f : mE → Prop, w_o (mft MX5_plusCrosses 42) f = f (.goto (-38), 45, 4, 0, 0, 0, 0)) ∧
  (∀ f : mE → Prop, w_o (mft MX5_plusCrosses 45) f = f (.iload_n 1, 46, 1, 0, 0, 0, 0)) ∧
  (∀ f : mE → Prop, w_o (mft MX5_plusCrosses 46) f = f (.ireturn, 47, 0, 0, 0, 0, 0)) := ⟨fun _ => rfl, fun _ => rfl, fun _ => rfl, fun _ => rfl, fun _ => rfl, fun _ => rfl, fun _ => rfl, fun _ => rfl, fun _ => rfl, fun _ => rfl, fun _ => rfl, fun _ => rfl, fun _ => rfl, fun _ => rfl, fun _ => rfl, fun _ => rfl, fun _ => rfl, fun _ => rfl, fun _ => rfl, fun _ => rfl, fun _ => rfl, fun _ => rfl, fun _ => rfl, fun _ => rfl, fun _ => rfl⟩
set_option maxRecDepth 100000 in
theorem gd_X5_plusCrosses : mGood MX5_plusCrosses := ⟨by decide +kernel, by decide +kernel, by decide +kernel⟩
set_option maxRecDepth 100000 in
set_option maxHeartbeats 4000000 in
theorem ft_X5_writhe : (∀ f : mE → Prop, w_o (mft MX5_writhe 0) f = f (.aload_n 0, 1, 0, 0, 0, 0, 0)) ∧
  (∀ f : mE → Prop, w_o (mft MX5_writhe 1) f = f (.iload_n 1, 2, 1, 0, 0, 0, 0)) ∧
  (∀ f : mE → Prop, w_o (mft MX5_writhe 2) f = f (.iload_n 1, 3, 1, 0, 0, 0, 0)) ∧
  (∀ f : mE → Prop, w_o (mft MX5_writhe 3) f = f (.invokevirtual 111, 6, 72, 2, 5, 0, 0)) ∧
  (∀ f : mE → Prop, w_o (mft MX5_writhe 6) f = f (.ireturn, 7, 0, 0, 0, 0, 0)) := ⟨fun _ => rfl, fun _ => rfl, fun _ => rfl, fun _ => rfl, fun _ => rfl⟩
set_option maxRecDepth 100000 in
theorem gd_X5_writhe : mGood MX5_writhe := ⟨by decide +kernel, by decide +kernel, by decide +kernel⟩
set_option maxRecDepth 100000 in
set_option maxHeartbeats 4000000 in
theorem ft_X5_linking : (∀ f : mE → Prop, w_o (mft MX5_linking 0) f = f (.aload_n 0, 1, 0, 0, 0, 0, 0)) ∧
  (∀ f : mE → Prop, w_o (mft MX5_linking 1) f = f (.iload_n 1, 2, 1, 0, 0, 0, 0)) ∧
  (∀ f : mE → Prop, w_o (mft MX5_linking 2) f = f (.iload_n 2, 3, 2, 0, 0, 0, 0)) ∧
  (∀ f : mE → Prop, w_o (mft MX5_linking 3) f = f (.invokevirtual 111, 6, 72, 2, 5, 0, 0)) ∧
  (∀ f : mE → Prop, w_o (mft MX5_linking 6) f = f (.aload_n 0, 7, 0, 0, 0, 0, 0)) ∧
  (∀ f : mE → Prop, w_o (mft MX5_linking 7) f = f (.iload_n 2, 8, 2, 0, 0, 0, 0)) ∧
  (∀ f : mE → Prop, w_o (mft MX5_linking 8) f = f (.iload_n 1, 9, 1, 0, 0, 0, 0)) ∧
  (∀ f : mE → Prop, w_o (mft MX5_linking 9) f = f (.invokevirtual 111, 12, 72, 2, 5, 0, 0)) ∧
  (∀ f : mE → Prop, w_o (mft MX5_linking 12) f = f (.iadd, 13, 0, 0, 0, 0, 0)) ∧
  (∀ f : mE → Prop, w_o (mft MX5_linking 13) f = f (.iconst 2, 14, 0, 0, 0, (2), 0)) ∧
  (∀ f : mE → Prop, w_o (mft MX5_linking 14) f = f (.idiv, 15, 0, 0, 0, 0, 0)) ∧
  (∀ f : mE → Prop, w_o (mft MX5_linking 15) f = f (.ireturn, 16, 0, 0, 0, 0, 0)) := ⟨fun _ => rfl, fun _ => rfl, fun _ => rfl, fun _ => rfl, fun _ => rfl, fun _ => rfl, fun _ => rfl, fun _ => rfl, fun _ => rfl, fun _ => rfl, fun _ => rfl, fun _ => rfl⟩
set_option maxRecDepth 100000 in
theorem gd_X5_linking : mGood MX5_linking := ⟨by decide +kernel, by decide +kernel, by decide +kernel⟩
set_option maxRecDepth 100000 in
set_option maxHeartbeats 4000000 in
theorem ft_X5_signSum : (∀ f : mE → Prop, w_o (mft MX5_signSum 0) f = f (.iconst 0, 1, 0, 0, 0, (0), 0)) ∧
  (∀ f : mE → Prop, w_o (mft MX5_signSum 1) f = f (.istore_n 3, 2, 3, 0, 0, 0, 0)) ∧
  (∀ f : mE → Prop, w_o (mft MX5_signSum 2) f = f (.iconst 0, 3, 0, 0, 0, (0), 0)) ∧
  (∀ f : mE → Prop, w_o (mft MX5_signSum 3) f = f (.istore 4, 5, 4, 0, 0, 0, 0)) ∧
  (∀ f : mE → Prop, w_o (mft MX5_signSum 5) f = f (.iload 4, 7, 4, 0, 0, 0, 0)) ∧
  (∀ f : mE → Prop, w_o (mft MX5_signSum 7) f = f (.aload_n 0, 8, 0, 0, 0, 0, 0)) ∧
  (∀ f : mE → Prop, w_o (mft MX5_signSum 8) f = f (.getfield 12, 11, 5, 0, 0, 0, 0)) ∧
  (∀ f : mE → Prop, w_o (mft MX5_signSum 11) f = f (.getfield 66, 14, 0, 3, 0, 0, 0)) ∧
  (∀ f : mE → Prop, w_o (mft MX5_signSum 14) f = f (.if_icmp .ge 70, 17, 84, 0, 0, 0, 0)) ∧
  (∀ f : mE → Prop, w_o (mft MX5_signSum 17) f = f (.aload_n 0, 18, 0, 0, 0, 0, 0)) ∧
  (∀ f : mE → Prop, w_o (mft MX5_signSum 18) f = f (.getfield 12, 21, 5, 0, 0, 0, 0)) ∧
  (∀ f : mE → Prop, w_o (mft MX5_signSum 21) f = f (.getfield 75, 24, 0, 0, 0, 0, 0)) ∧
  (∀ f : mE → Prop, w_o (mft MX5_signSum 24) f = f (.iload 4, 26, 4, 0, 0, 0, 0)) ∧
  (∀ f : mE → Prop, w_o (mft MX5_signSum 26) f = f (.iaload, 27, 0, 0, 0, 0, 0)) ∧
  (∀ f : mE → Prop, w_o (mft MX5_signSum 27) f = f (.iconst 1, 28, 0, 0, 0, (1), 0)) ∧
  (∀ f : mE → Prop, w_o (mft MX5_signSum 28) f = f (.if_icmp .ne 50, 31, 78, 0, 0, 0, 0)) ∧
  (∀ f : mE → Prop, w_o (mft MX5_signSum 31) f = f (.aload_n 0, 32, 0, 0, 0, 0, 0)) ∧
  (∀ f : mE → Prop, w_o (mft MX5_signSum 32) f = f (.getfield 34, 35, 5, 5, 0, 0, 0)) ∧
  (∀ f : mE → Prop, w_o (mft MX5_signSum 35) f = f (.aload_n 0, 36, 0, 0, 0, 0, 0)) ∧
  (∀ f : mE → Prop, w_o (mft MX5_signSum 36) f = f (.iload 4, 38, 4, 0, 0, 0, 0)) ∧
  (∀ f : mE → Prop, w_o (mft MX5_signSum 38) f = f (.invokevirtual 100, 41, 66, 1, 5, 0, 0)) ∧
  (∀ f : mE → Prop, w_o (mft MX5_signSum 41) f = f (.iaload, 42, 0, 0, 0, 0, 0)) ∧
  (∀ f : mE → Prop, w_o (mft MX5_signSum 42) f = f (.iload_n 1, 43, 1, 0, 0, 0, 0)) ∧
  (∀ f : mE → Prop, w_o (mft MX5_signSum 43) f = f (.if_icmp .ne 35, 46, 78, 0, 0, 0, 0)) ∧
  (∀ f : mE → Prop, w_o (mft MX5_signSum 46) f = f (.aload_n 0, 47, 0, 0, 0, 0, 0)) ∧
  (∀ f : mE → Prop, w_o (mft MX5_signSum 47) f = f (.getfield 34, 50, 5, 5, 0, 0, 0)) ∧
  (∀ f : mE → Prop, w_o (mft MX5_signSum 50) f = f (.aload_n 0, 51, 0, 0, 0, 0, 0)) ∧
  (∀ f : mE → Prop, w_o (mft MX5_signSum 51) f = f (.iload 4, 53, 4, 0, 0, 0, 0)) ∧
  (∀ f : mE → Prop, w_o (mft MX5_signSum 53) f = f (.invokevirtual 104, 56, 67, 1, 5, 0, 0)) ∧
  (∀ f : mE → Prop, w_o (mft MX5_signSum 56) f = f (.iaload, 57, 0, 0, 0, 0, 0)) ∧
  (∀ f : mE → Prop, w_o (mft MX5_signSum 57) f = f (.iload_n 2, 58, 2, 0, 0, 0, 0)) ∧
  (∀ f : mE → Prop, w_o (mft MX5_signSum 58) f = f (.if_icmp .ne 20, 61, 78, 0, 0, 0, 0)) ∧
  (∀ f : mE → Prop, w_o (mft MX5_signSum 61) f = f (.iload_n 3, 62, 3, 0, 0, 0, 0)) ∧
  (∀ f : mE → Prop, w_o (mft MX5_signSum 62) f = f (.aload_n 0, 63, 0, 0, 0, 0, 0)) ∧
  (∀ f : mE → Prop, w_o (mft MX5_signSum 63) f = f (.iload 4, 65, 4, 0, 0, 0, 0)) ∧
  (∀ f : mE → Prop, w_o (mft MX5_signSum 65) f = f (.invokevirtual 107, 68, 68, 1, 5, 0, 0)) ∧
  (∀ f : mE → Prop, w_o (mft MX5_signSum 68) f = f (.ifCond .eq 7, 71, 75, 0, 0, 0, 0)) ∧
  (∀ f : mE → Prop, w_o (mft MX5_signSum 71) f = f (.iconst 1, 72, 0, 0, 0, (1), 0)) ∧
  (∀ f : mE → Prop, w_o (mft MX5_signSum 72) f = f (.goto 4, 75, 76, 0, 0, 0, 0)) ∧
  (∀ f : mE → Prop, w_o (mft MX5_signSum 75) f = f (.iconst (-1), 76, 0, 0, 0, (-1), 0)) ∧
  (∀ f : mE → Prop, w_o (mft MX5_signSum 76) f = f (.iadd, 77, 0, 0, 0, 0, 0)) ∧
  (∀ f : mE → Prop, w_o (mft MX5_signSum 77) f = f (.istore_n 3, 78, 3, 0, 0, 0, 0)) ∧
  (∀ f : mE → Prop, w_o (mft MX5_signSum 78) f = f (.iinc 4 1, 81, 4, 0, 0, (1), 0)) ∧
  (∀ f : mE → Prop, w_o (mft MX5_signSum 81) f = f (.goto (-76), 84, 5, 0, 0, 0, 0)) ∧
  (∀ f : mE → Prop, w_o (mft MX5_signSum 84) f = f (.iload_n 3, 85, 3, 0, 0, 0, 0)) ∧
  (∀ f : mE → Prop, w_o (mft MX5_signSum 85) f = f (.ireturn, 86, 0, 0, 0, 0, 0)) := ⟨fun _ => rfl, fun _ => rfl, fun _ => rfl, fun _ => rfl, fun _ => rfl, fun _ => rfl, fun _ => rfl, fun _ => rfl, fun _ => rfl, fun _ => rfl, fun _ => rfl, fun _ => rfl, fun _ => rfl, fun _ => rfl, fun _ => rfl, fun _ => rfl, fun _ => rfl, fun _ => rfl, fun _ => rfl, fun _ => rfl, fun _ => rfl, fun _ => rfl, fun _ => rfl, fun _ => rfl, fun _ => rfl, fun _ => rfl, fun _ => rfl, fun _ => rfl, fun _ => rfl, fun _ => rfl, fun _ => rfl, fun _ => rfl, fun _ => rfl, fun _ => rfl, fun _ => rfl, fun _ => rfl, fun _ => rfl, fun _ => rfl, fun _ => rfl, fun _ => rfl, fun _ => rfl, fun _ => rfl, fun _ => rfl, fun _ => rfl, fun _ => rfl, fun _ => rfl⟩
set_option maxRecDepth 100000 in
theorem gd_X5_signSum : mGood MX5_signSum := ⟨by decide +kernel, by decide +kernel, by decide +kernel⟩
set_option maxRecDepth 100000 in
set_option maxHeartbeats 4000000 in
theorem ft_X5_deaths : (∀ f : mE → Prop, w_o (mft MX5_deaths 0) f = f (.aload_n 0, 1, 0, 0, 0, 0, 0)) ∧
  (∀ f : mE → Prop, w_o (mft MX5_deaths 1) f = f (.getfield 53, 4, 5, 11, 0, 0, 0)) ∧
  (∀ f : mE → Prop, w_o (mft MX5_deaths 4) f = f (.iload_n 1, 5, 1, 0, 0, 0, 0)) ∧
  (∀ f : mE → Prop, w_o (mft MX5_deaths 5) f = f (.iaload, 6, 0, 0, 0, 0, 0)) ∧
  (∀ f : mE → Prop, w_o (mft MX5_deaths 6) f = f (.aload_n 0, 7, 0, 0, 0, 0, 0)) ∧
  (∀ f : mE → Prop, w_o (mft MX5_deaths 7) f = f (.getfield 56, 10, 5, 12, 0, 0, 0)) ∧
  (∀ f : mE → Prop, w_o (mft MX5_deaths 10) f = f (.iload_n 1, 11, 1, 0, 0, 0, 0)) ∧
  (∀ f : mE → Prop, w_o (mft MX5_deaths 11) f = f (.iaload, 12, 0, 0, 0, 0, 0)) ∧
  (∀ f : mE → Prop, w_o (mft MX5_deaths 12) f = f (.iadd, 13, 0, 0, 0, 0, 0)) ∧
  (∀ f : mE → Prop, w_o (mft MX5_deaths 13) f = f (.iconst 2, 14, 0, 0, 0, (2), 0)) ∧
  (∀ f : mE → Prop, w_o (mft MX5_deaths 14) f = f (.idiv, 15, 0, 0, 0, 0, 0)) ∧
  (∀ f : mE → Prop, w_o (mft MX5_deaths 15) f = f (.ireturn, 16, 0, 0, 0, 0, 0)) := ⟨fun _ => rfl, fun _ => rfl, fun _ => rfl, fun _ => rfl, fun _ => rfl, fun _ => rfl, fun _ => rfl, fun _ => rfl, fun _ => rfl, fun _ => rfl, fun _ => rfl, fun _ => rfl⟩
set_option maxRecDepth 100000 in
theorem gd_X5_deaths : mGood MX5_deaths := ⟨by decide +kernel, by decide +kernel, by decide +kernel⟩
set_option maxRecDepth 100000 in
set_option maxHeartbeats 4000000 in
theorem ft_X5_turn : (∀ f : mE → Prop, w_o (mft MX5_turn 0) f = f (.aload_n 0, 1, 0, 0, 0, 0, 0)) ∧
  (∀ f : mE → Prop, w_o (mft MX5_turn 1) f = f (.getfield 53, 4, 5, 11, 0, 0, 0)) ∧
  (∀ f : mE → Prop, w_o (mft MX5_turn 4) f = f (.iload_n 1, 5, 1, 0, 0, 0, 0)) ∧
  (∀ f : mE → Prop, w_o (mft MX5_turn 5) f = f (.iaload, 6, 0, 0, 0, 0, 0)) ∧
  (∀ f : mE → Prop, w_o (mft MX5_turn 6) f = f (.aload_n 0, 7, 0, 0, 0, 0, 0)) ∧
  (∀ f : mE → Prop, w_o (mft MX5_turn 7) f = f (.getfield 56, 10, 5, 12, 0, 0, 0)) ∧
  (∀ f : mE → Prop, w_o (mft MX5_turn 10) f = f (.iload_n 1, 11, 1, 0, 0, 0, 0)) ∧
  (∀ f : mE → Prop, w_o (mft MX5_turn 11) f = f (.iaload, 12, 0, 0, 0, 0, 0)) ∧
  (∀ f : mE → Prop, w_o (mft MX5_turn 12) f = f (.isub, 13, 0, 0, 0, 0, 0)) ∧
  (∀ f : mE → Prop, w_o (mft MX5_turn 13) f = f (.iconst 2, 14, 0, 0, 0, (2), 0)) ∧
  (∀ f : mE → Prop, w_o (mft MX5_turn 14) f = f (.idiv, 15, 0, 0, 0, 0, 0)) ∧
  (∀ f : mE → Prop, w_o (mft MX5_turn 15) f = f (.ireturn, 16, 0, 0, 0, 0, 0)) := ⟨fun _ => rfl, fun _ => rfl, fun _ => rfl, fun _ => rfl, fun _ => rfl, fun _ => rfl, fun _ => rfl, fun _ => rfl, fun _ => rfl, fun _ => rfl, fun _ => rfl, fun _ => rfl⟩
set_option maxRecDepth 100000 in
theorem gd_X5_turn : mGood MX5_turn := ⟨by decide +kernel, by decide +kernel, by decide +kernel⟩
set_option maxRecDepth 100000 in
set_option maxHeartbeats 4000000 in
theorem ft_X5_levelStep : (∀ f : mE → Prop, w_o (mft MX5_levelStep 0) f = f (.aload_n 0, 1, 0, 0, 0, 0, 0)) ∧
  (∀ f : mE → Prop, w_o (mft MX5_levelStep 1) f = f (.getfield 40, 4, 5, 7, 0, 0, 0)) ∧
  (∀ f : mE → Prop, w_o (mft MX5_levelStep 4) f = f (.aload_n 0, 5, 0, 0, 0, 0, 0)) ∧
  (∀ f : mE → Prop, w_o (mft MX5_levelStep 5) f = f (.iload_n 1, 6, 1, 0, 0, 0, 0)) ∧
  (∀ f : mE → Prop, w_o (mft MX5_levelStep 6) f = f (.invokevirtual 104, 9, 67, 1, 5, 0, 0)) ∧
  (∀ f : mE → Prop, w_o (mft MX5_levelStep 9) f = f (.iaload, 10, 0, 0, 0, 0, 0)) ∧
  (∀ f : mE → Prop, w_o (mft MX5_levelStep 10) f = f (.aload_n 0, 11, 0, 0, 0, 0, 0)) ∧
  (∀ f : mE → Prop, w_o (mft MX5_levelStep 11) f = f (.getfield 40, 14, 5, 7, 0, 0, 0)) ∧
  (∀ f : mE → Prop, w_o (mft MX5_levelStep 14) f = f (.aload_n 0, 15, 0, 0, 0, 0, 0)) ∧
  (∀ f : mE → Prop, w_o (mft MX5_levelStep 15) f = f (.iload_n 1, 16, 1, 0, 0, 0, 0)) ∧
  (∀ f : mE → Prop, w_o (mft MX5_levelStep 16) f = f (.invokevirtual 100, 19, 66, 1, 5, 0, 0)) ∧
  (∀ f : mE → Prop, w_o (mft MX5_levelStep 19) f = f (.iaload, 20, 0, 0, 0, 0, 0)) ∧
  (∀ f : mE → Prop, w_o (mft MX5_levelStep 20) f = f (.isub, 21, 0, 0, 0, 0, 0)) ∧
  (∀ f : mE → Prop, w_o (mft MX5_levelStep 21) f = f (.istore_n 2, 22, 2, 0, 0, 0, 0)) ∧
  (∀ f : mE → Prop, w_o (mft MX5_levelStep 22) f = f (.iconst 2, 23, 0, 0, 0, (2), 0)) ∧
  (∀ f : mE → Prop, w_o (mft MX5_levelStep 23) f = f (.aload_n 0, 24, 0, 0, 0, 0, 0)) ∧
  (∀ f : mE → Prop, w_o (mft MX5_levelStep 24) f = f (.iconst 0, 25, 0, 0, 0, (0), 0)) ∧
  (∀ f : mE → Prop, w_o (mft MX5_levelStep 25) f = f (.invokevirtual 115, 28, 74, 1, 5, 0, 0)) ∧
  (∀ f : mE → Prop, w_o (mft MX5_levelStep 28) f = f (.invokestatic 118, 31, 1012, 0, 0, 0, 0)) ∧
  (∀ f : mE → Prop, w_o (mft MX5_levelStep 31) f = f (.imul, 32, 0, 0, 0, 0, 0)) ∧
  (∀ f : mE → Prop, w_o (mft MX5_levelStep 32) f = f (.istore_n 3, 33, 3, 0, 0, 0, 0)) ∧
  (∀ f : mE → Prop, w_o (mft MX5_levelStep 33) f = f (.iload_n 3, 34, 3, 0, 0, 0, 0)) ∧
  (∀ f : mE → Prop, w_o (mft MX5_levelStep 34) f = f (.ifCond .ne 7, 37, 41, 0, 0, 0, 0)) ∧
  (∀ f : mE → Prop, w_o (mft MX5_levelStep 37) f = f (.iload_n 2, 38, 2, 0, 0, 0, 0)) ∧
  (∀ f : mE → Prop, w_o (mft MX5_levelStep 38) f = f (.goto 8, 41, 46, 0, 0, 0, 0)) ∧
  (∀ f : mE → Prop, w_o (mft MX5_levelStep 41) f = f (.iload_n 2, 42, 2, 0, 0, 0, 0)) ∧
  (∀ f : mE → Prop, w_o (mft MX5_levelStep 42) f = f (.iload_n 3, 43, 3, 0, 0, 0, 0)) ∧
  (∀ f : mE → Prop, w_o (mft MX5_levelStep 43) f = f (.invokestatic 123, 46, 176, 2, 10, 0, 0)) ∧
  (∀ f : mE → Prop, w_o (mft MX5_levelStep 46) f = f (.ireturn, 47, 0, 0, 0, 0, 0)) := ⟨fun _ => rfl, fun _ => rfl, fun _ => rfl, fun _ => rfl, fun _ => rfl, fun _ => rfl, fun _ => rfl, fun _ => rfl, fun _ => rfl, fun _ => rfl, fun _ => rfl, fun _ => rfl, fun _ => rfl, fun _ => rfl, fun _ => rfl, fun _ => rfl, fun _ => rfl, fun _ => rfl, fun _ => rfl, fun _ => rfl, fun _ => rfl, fun _ => rfl, fun _ => rfl, fun _ => rfl, fun _ => rfl, fun _ => rfl, fun _ => rfl, fun _ => rfl, fun _ => rfl⟩
set_option maxRecDepth 100000 in
theorem gd_X5_levelStep : mGood MX5_levelStep := ⟨by decide +kernel, by decide +kernel, by decide +kernel⟩
set_option maxRecDepth 100000 in
set_option maxHeartbeats 4000000 in
theorem ft_X6_init : (∀ f : mE → Prop, w_o (mft MX6_init 0) f = f (.aload_n 0, 1, 0, 0, 0, 0, 0)) ∧
  (∀ f : mE → Prop, w_o (mft MX6_init 1) f = f (.invokespecial 3, 4, 1001, 0, 0, 0, 0)) ∧
  (∀ f : mE → Prop, w_o (mft MX6_init 4) f = f (.aload_n 0, 5, 0, 0, 0, 0, 0)) ∧
  (∀ f : mE → Prop, w_o (mft MX6_init 5) f = f (.new 9, 8, 0, 0, 0, 0, 0)) ∧
  (∀ f : mE → Prop, w_o (mft MX6_init 8) f = f (.dup, 9, 0, 0, 0, 0, 0)) ∧
  (∀ f : mE → Prop, w_o (mft MX6_init 9) f = f (.invokespecial 11, 12, 47, 0, 4, 0, 0)) ∧
  (∀ f : mE → Prop, w_o (mft MX6_init 12) f = f (.putfield 12, 15, 6, 0, 2, 0, 0)) ∧
  (∀ f : mE → Prop, w_o (mft MX6_init 15) f = f (.aload_n 0, 16, 0, 0, 0, 0, 0)) ∧
  (∀ f : mE → Prop, w_o (mft MX6_init 16) f = f (.iconst 4, 17, 0, 0, 0, (4), 0)) ∧
  (∀ f : mE → Prop, w_o (mft MX6_init 17) f = f (.anewarray 16, 20, 0, 0, 0, 0, 0)) ∧
  (∀ f : mE → Prop, w_o (mft MX6_init 20) f = f (.putfield 18, 23, 6, 1, 2, 0, 0)) ∧
  (∀ f : mE → Prop, w_o (mft MX6_init 23) f = f (.aload_n 0, 24, 0, 0, 0, 0, 0)) ∧
  (∀ f : mE → Prop, w_o (mft MX6_init 24) f = f (.bipush 8, 26, 0, 0, 0, (8), 0)) ∧
  (∀ f : mE → Prop, w_o (mft MX6_init 26) f = f (.anewarray 22, 29, 0, 0, 0, 0, 0)) ∧
  (∀ f : mE → Prop, w_o (mft MX6_init 29) f = f (.putfield 24, 32, 6, 2, 2, 0, 0)) ∧
  (∀ f : mE → Prop, w_o (mft MX6_init 32) f = f (.aload_n 0, 33, 0, 0, 0, 0, 0)) ∧
  (∀ f : mE → Prop, w_o (mft MX6_init 33) f = f (.new 22, 36, 0, 0, 0, 0, 0)) ∧
  (∀ f : mE → Prop, w_o (mft MX6_init 36) f = f (.dup, 37, 0, 0, 0, 0, 0)) ∧
  (∀ f : mE → Prop, w_o (mft MX6_init 37) f = f (.invokespecial 28, 40, 0, 0, 0, 0, 0)) ∧
  (∀ f : mE → Prop, w_o (mft MX6_init 40) f = f (.putfield 29, 43, 6, 3, 2, 0, 0)) ∧
  (∀ f : mE → Prop, w_o (mft MX6_init 43) f = f (.aload_n 0, 44, 0, 0, 0, 0, 0)) ∧
  (∀ f : mE → Prop, w_o (mft MX6_init 44) f = f (.new 33, 47, 0, 0, 0, 0, 0)) ∧
  (∀ f : mE → Prop, w_o (mft MX6_init 47) f = f (.dup, 48, 0, 0, 0, 0, 0)) ∧
  (∀ f : mE → Prop, w_o (mft MX6_init 48) f = f (.invokespecial 35, 51, 12, 0, 1, 0, 0)) ∧
  (∀ f : mE → Prop, w_o (mft MX6_init 51) f = f (.putfield 36, 54, 6, 4, 2, 0, 0)) ∧
  (∀ f : mE → Prop, w_o (mft MX6_init 54) f = f (.aload_n 0, 55, 0, 0, 0, 0, 0)) ∧
  (∀ f : mE → Prop, w_o (mft MX6_init 55) f = f (.new 40, 58, 0, 0, 0, 0, 0)) ∧
  (∀ f : mE → Prop, w_o (mft MX6_init 58) f = f (.dup, 59, 0, 0, 0, 0, 0)) ∧
  (∀ f : mE → Prop, w_o (mft MX6_init 59) f = f (.invokespecial 42, 62, 56, 0, 5, 0, 0)) ∧
  (∀ f : mE → Prop, w_o (mft MX6_init 62) f = f (.putfield 43, 65, 6, 5, 2, 0, 0)) ∧
  (∀ f : mE → Prop, w_o (mft MX6_init 65) f = f (.aload_n 0, 66, 0, 0, 0, 0, 0)) ∧
  (∀ f : mE → Prop, w_o (mft MX6_init 66) f = f (.new 47, 69, 0, 0, 0, 0, 0)) ∧
  (∀ f : mE → Prop, w_o (mft MX6_init 69) f = f (.dup, 70, 0, 0, 0, 0, 0)) ∧
  (∀ f : mE → Prop, w_o (mft MX6_init 70) f = f (.invokespecial 49, 73, 33, 0, 3, 0, 0)) ∧
  (∀ f : mE → Prop, w_o (mft MX6_init 73) f = f (.putfield 50, 76, 6, 6, 2, 0, 0)) ∧
  (∀ f : mE → Prop, w_o (mft MX6_init 76) f = f (.aload_n 0, 77, 0, 0, 0, 0, 0)) ∧
  (∀ f : mE → Prop, w_o (mft MX6_init 77) f = f (.iconst 0, 78, 0, 0, 0, (0), 0)) ∧
  (∀ f : mE → Prop, w_o (mft MX6_init 78) f = f (.putfield 54, 81, 6, 7, 0, 0, 0)) ∧
  (∀ f : mE → Prop, w_o (mft MX6_init 81) f = f (.aload_n 0, 82, 0, 0, 0, 0, 0)) ∧
  (∀ f : mE → Prop, w_o (mft MX6_init 82) f = f (.iconst 0, 83, 0, 0, 0, (0), 0)) ∧
  (∀ f : mE → Prop, w_o (mft MX6_init 83) f = f (.putfield 58, 86, 6, 8, 0, 0, 0)) ∧
  (∀ f : mE → Prop, w_o (mft MX6_init 86) f = f (.iconst 0, 87, 0, 0, 0, (0), 0)) ∧
  (∀ f : mE → Prop, w_o (mft MX6_init 87) f = f (.istore_n 1, 88, 1, 0, 0, 0, 0)) ∧
  (∀ f : mE → Prop, w_o (mft MX6_init 88) f = f (.iload_n 1, 89, 1, 0, 0, 0, 0)) ∧
  (∀ f : mE → Prop, w_o (mft MX6_init 89) f = f (.iconst 4, 90, 0, 0, 0, (4), 0)) ∧
  (∀ f : mE → Prop, w_o (mft MX6_init 90) f = f (.if_icmp .ge 22, 93, 112, 0, 0, 0, 0)) ∧
  (∀ f : mE → Prop, w_o (mft MX6_init 93) f = f (.aload_n 0, 94, 0, 0, 0, 0, 0)) ∧
  (∀ f : mE → Prop, w_o (mft MX6_init 94) f = f (.getfield 18, 97, 6, 1, 0, 0, 0)) ∧
  (∀ f : mE → Prop, w_o (mft MX6_init 97) f = f (.iload_n 1, 98, 1, 0, 0, 0, 0)) ∧
  (∀ f : mE → Prop, w_o (mft MX6_init 98) f = f (.new 16, 101, 0, 0, 0, 0, 0)) ∧
  (∀ f : mE → Prop, w_o (mft MX6_init 101) f = f (.dup, 102, 0, 0, 0, 0, 0)) ∧
  (∀ f : mE → Prop, w_o (mft MX6_init 102) f = f (.invokespecial 61, 105, 28, 0, 2, 0, 0)) ∧
  (∀ f : mE → Prop, w_o (mft MX6_init 105) f = f (.aastore, 106, 0, 0, 0, 0, 0)) ∧
  (∀ f : mE → Prop, w_o (mft MX6_init 106) f = f (.iinc 1 1, 109, 1, 0, 0, (1), 0)) ∧
  (∀ f : mE → Prop, w_o (mft MX6_init 109) f = f (.goto (-21), 112, 88, 0, 0, 0, 0)) ∧
  (∀ f : mE → Prop, w_o (mft MX6_init 112) f = f (.iconst 0, 113, 0, 0, 0, (0), 0)) ∧
  (∀ f : mE → Prop, w_o (mft MX6_init 113) f = f (.istore_n 1, 114, 1, 0, 0, 0, 0)) ∧
  (∀ f : mE → Prop, w_o (mft MX6_init 114) f = f (.iload_n 1, 115, 1, 0, 0, 0, 0)) ∧
  (∀ f : mE → Prop, w_o (mft MX6_init 115) f = f (.bipush 8, 117, 0, 0, 0, (8), 0)) ∧
  (∀ f : mE → Prop, w_o (mft MX6_init 117) f = f (.if_icmp .ge 22, 120, 139, 0, 0, 0, 0)) ∧
  (∀ f : mE → Prop, w_o (mft MX6_init 120) f = f (.aload_n 0, 121, 0, 0, 0, 0, 0)) ∧
  (∀ f : mE → Prop, w_o (mft MX6_init 121) f = f (.getfield 24, 124, 6, 2, 0, 0, 0)) ∧
  (∀ f : mE → Prop, w_o (mft MX6_init 124) f = f (.iload_n 1, 125, 1, 0, 0, 0, 0)) ∧
  (∀ f : mE → Prop, w_o (mft MX6_init 125) f = f (.new 22, 128, 0, 0, 0, 0, 0)) ∧
  (∀ f : mE → Prop, w_o (mft MX6_init 128) f = f (.dup, 129, 0, 0, 0, 0, 0)) ∧
  (∀ f : mE → Prop, w_o (mft MX6_init 129) f = f (.invokespecial 28, 132, 0, 0, 0, 0, 0)) ∧
  (∀ f : mE → Prop, w_o (mft MX6_init 132) f = f (.aastore, 133, 0, 0, 0, 0, 0)) ∧
  (∀ f : mE → Prop, w_o (mft MX6_init 133) f = f (.iinc 1 1, 136, 1, 0, 0, (1), 0)) ∧
  (∀ f : mE → Prop, w_o (mft MX6_init 136) f = f (.goto (-22), 139, 114, 0, 0, 0, 0)) ∧
  (∀ f : mE → Prop, w_o (mft MX6_init 139) f = f (.return_, 140, 0, 0, 0, 0, 0)) := ⟨fun _ => rfl, fun _ => rfl, fun _ => rfl, fun _ => rfl, fun _ => rfl, fun _ => rfl, fun _ => rfl, fun _ => rfl, fun _ => rfl, fun _ => rfl, fun _ => rfl, fun _ => rfl, fun _ => rfl, fun _ => rfl, fun _ => rfl, fun _ => rfl, fun _ => rfl, fun _ => rfl, fun _ => rfl, fun _ => rfl, fun _ => rfl, fun _ => rfl, fun _ => rfl, fun _ => rfl, fun _ => rfl, fun _ => rfl, fun _ => rfl, fun _ => rfl, fun _ => rfl, fun _ => rfl, fun _ => rfl, fun _ => rfl, fun _ => rfl, fun _ => rfl, fun _ => rfl, fun _ => rfl, fun _ => rfl, fun _ => rfl, fun _ => rfl, fun _ => rfl, fun _ => rfl, fun _ => rfl, fun _ => rfl, fun _ => rfl, fun _ => rfl, fun _ => rfl, fun _ => rfl, fun _ => rfl, fun _ => rfl, fun _ => rfl, fun _ => rfl, fun _ => rfl, fun _ => rfl, fun _ => rfl, fun _ => rfl, fun _ => rfl, fun _ => rfl, fun _ => rfl, fun _ => rfl, fun _ => rfl, fun _ => rfl, fun _ => rfl, fun _ => rfl, fun _ => rfl, fun _ => rfl, fun _ => rfl, fun _ => rfl, fun _ => rfl, fun _ => rfl, fun _ => rfl⟩
set_option maxRecDepth 100000 in
theorem gd_X6_init : mGood MX6_init := ⟨by decide +kernel, by decide +kernel, by decide +kernel⟩
set_option maxRecDepth 100000 in
set_option maxHeartbeats 4000000 in
theorem ft_X6_feed : (∀ f : mE → Prop, w_o (mft MX6_feed 0) f = f (.aload_n 0, 1, 0, 0, 0, 0, 0)) ∧
  (∀ f : mE → Prop, w_o (mft MX6_feed 1) f = f (.getfield 12, 4, 6, 0, 0, 0, 0)) ∧
  (∀ f : mE → Prop, w_o (mft MX6_feed 4) f = f (.getfield 62, 7, 4, 1, 0, 0, 0)) ∧
  (∀ f : mE → Prop, w_o (mft MX6_feed 7) f = f (.bipush 112, 9, 0, 0, 0, (112), 0)) ∧
  (∀ f : mE → Prop, w_o (mft MX6_feed 9) f = f (.if_icmp .le 6, 12, 15, 0, 0, 0, 0)) ∧
  (∀ f : mE → Prop, w_o (mft MX6_feed 12) f = f (.bipush (-3), 14, 0, 0, 0, (-3), 0)) ∧
  (∀ f : mE → Prop, w_o (mft MX6_feed 14) f = f (.ireturn, 15, 0, 0, 0, 0, 0)) ∧
  (∀ f : mE → Prop, w_o (mft MX6_feed 15) f = f (.aload_n 0, 16, 0, 0, 0, 0, 0)) ∧
  (∀ f : mE → Prop, w_o (mft MX6_feed 16) f = f (.getfield 12, 19, 6, 0, 0, 0, 0)) ∧
  (∀ f : mE → Prop, w_o (mft MX6_feed 19) f = f (.lload_n 1, 20, 1, 0, 0, 0, 0)) ∧
  (∀ f : mE → Prop, w_o (mft MX6_feed 20) f = f (.invokevirtual 65, 23, 48, 1, 4, 0, 0)) ∧
  (∀ f : mE → Prop, w_o (mft MX6_feed 23) f = f (.aload_n 0, 24, 0, 0, 0, 0, 0)) ∧
  (∀ f : mE → Prop, w_o (mft MX6_feed 24) f = f (.getfield 12, 27, 6, 0, 0, 0, 0)) ∧
  (∀ f : mE → Prop, w_o (mft MX6_feed 27) f = f (.getfield 62, 30, 4, 1, 0, 0, 0)) ∧
  (∀ f : mE → Prop, w_o (mft MX6_feed 30) f = f (.ireturn, 31, 0, 0, 0, 0, 0)) := ⟨fun _ => rfl, fun _ => rfl, fun _ => rfl, fun _ => rfl, fun _ => rfl, fun _ => rfl, fun _ => rfl, fun _ => rfl, fun _ => rfl, fun _ => rfl, fun _ => rfl, fun _ => rfl, fun _ => rfl, fun _ => rfl, fun _ => rfl⟩
set_option maxRecDepth 100000 in
theorem gd_X6_feed : mGood MX6_feed := ⟨by decide +kernel, by decide +kernel, by decide +kernel⟩
set_option maxRecDepth 100000 in
set_option maxHeartbeats 4000000 in
theorem ft_X6_end : (∀ f : mE → Prop, w_o (mft MX6_end 0) f = f (.iload_n 1, 1, 1, 0, 0, 0, 0)) ∧
  (∀ f : mE → Prop, w_o (mft MX6_end 1) f = f (.ifCond .lt 14, 4, 15, 0, 0, 0, 0)) ∧
  (∀ f : mE → Prop, w_o (mft MX6_end 4) f = f (.iload_n 1, 5, 1, 0, 0, 0, 0)) ∧
  (∀ f : mE → Prop, w_o (mft MX6_end 5) f = f (.aload_n 0, 6, 0, 0, 0, 0, 0)) ∧
  (∀ f : mE → Prop, w_o (mft MX6_end 6) f = f (.getfield 12, 9, 6, 0, 0, 0, 0)) ∧
  (∀ f : mE → Prop, w_o (mft MX6_end 9) f = f (.getfield 62, 12, 4, 1, 0, 0, 0)) ∧
  (∀ f : mE → Prop, w_o (mft MX6_end 12) f = f (.if_icmp .le 5, 15, 17, 0, 0, 0, 0)) ∧
  (∀ f : mE → Prop, w_o (mft MX6_end 15) f = f (.iconst (-1), 16, 0, 0, 0, (-1), 0)) ∧
  (∀ f : mE → Prop, w_o (mft MX6_end 16) f = f (.ireturn, 17, 0, 0, 0, 0, 0)) ∧
  (∀ f : mE → Prop, w_o (mft MX6_end 17) f = f (.aload_n 0, 18, 0, 0, 0, 0, 0)) ∧
  (∀ f : mE → Prop, w_o (mft MX6_end 18) f = f (.getfield 12, 21, 6, 0, 0, 0, 0)) ∧
  (∀ f : mE → Prop, w_o (mft MX6_end 21) f = f (.getfield 62, 24, 4, 1, 0, 0, 0)) ∧
  (∀ f : mE → Prop, w_o (mft MX6_end 24) f = f (.istore_n 2, 25, 2, 0, 0, 0, 0)) ∧
  (∀ f : mE → Prop, w_o (mft MX6_end 25) f = f (.aload_n 0, 26, 0, 0, 0, 0, 0)) ∧
  (∀ f : mE → Prop, w_o (mft MX6_end 26) f = f (.getfield 12, 29, 6, 0, 0, 0, 0)) ∧
  (∀ f : mE → Prop, w_o (mft MX6_end 29) f = f (.iload_n 1, 30, 1, 0, 0, 0, 0)) ∧
  (∀ f : mE → Prop, w_o (mft MX6_end 30) f = f (.putfield 62, 33, 4, 1, 0, 0, 0)) ∧
  (∀ f : mE → Prop, w_o (mft MX6_end 33) f = f (.iload_n 2, 34, 2, 0, 0, 0, 0)) ∧
  (∀ f : mE → Prop, w_o (mft MX6_end 34) f = f (.ireturn, 35, 0, 0, 0, 0, 0)) := ⟨fun _ => rfl, fun _ => rfl, fun _ => rfl, fun _ => rfl, fun _ => rfl, fun _ => rfl, fun _ => rfl, fun _ => rfl, fun _ => rfl, fun _ => rfl, fun _ => rfl, fun _ => rfl, fun _ => rfl, fun _ => rfl, fun _ => rfl, fun _ => rfl, fun _ => rfl, fun _ => rfl, fun _ => rfl⟩
set_option maxRecDepth 100000 in
theorem gd_X6_end : mGood MX6_end := ⟨by decide +kernel, by decide +kernel, by decide +kernel⟩
set_option maxRecDepth 100000 in
set_option maxHeartbeats 4000000 in
theorem ft_X6_front : (∀ f : mE → Prop, w_o (mft MX6_front 0) f = f (.aload_n 0, 1, 0, 0, 0, 0, 0)) ∧
  (∀ f : mE → Prop, w_o (mft MX6_front 1) f = f (.getfield 54, 4, 6, 7, 0, 0, 0)) ∧
  (∀ f : mE → Prop, w_o (mft MX6_front 4) f = f (.bipush 8, 6, 0, 0, 0, (8), 0)) ∧
  (∀ f : mE → Prop, w_o (mft MX6_front 6) f = f (.if_icmp .lt 6, 9, 12, 0, 0, 0, 0)) ∧
  (∀ f : mE → Prop, w_o (mft MX6_front 9) f = f (.bipush (-3), 11, 0, 0, 0, (-3), 0)) ∧
  (∀ f : mE → Prop, w_o (mft MX6_front 11) f = f (.ireturn, 12, 0, 0, 0, 0, 0)) ∧
  (∀ f : mE → Prop, w_o (mft MX6_front 12) f = f (.aload_n 0, 13, 0, 0, 0, 0, 0)) ∧
  (∀ f : mE → Prop, w_o (mft MX6_front 13) f = f (.aload_n 0, 14, 0, 0, 0, 0, 0)) ∧
  (∀ f : mE → Prop, w_o (mft MX6_front 14) f = f (.getfield 12, 17, 6, 0, 0, 0, 0)) ∧
  (∀ f : mE → Prop, w_o (mft MX6_front 17) f = f (.aload_n 0, 18, 0, 0, 0, 0, 0)) ∧
  (∀ f : mE → Prop, w_o (mft MX6_front 18) f = f (.getfield 29, 21, 6, 3, 0, 0, 0)) ∧
  (∀ f : mE → Prop, w_o (mft MX6_front 21) f = f (.invokevirtual 69, 24, 49, 1, 4, 0, 0)) ∧
  (∀ f : mE → Prop, w_o (mft MX6_front 24) f = f (.putfield 58, 27, 6, 8, 0, 0, 0)) ∧
  (∀ f : mE → Prop, w_o (mft MX6_front 27) f = f (.aload_n 0, 28, 0, 0, 0, 0, 0)) ∧
  (∀ f : mE → Prop, w_o (mft MX6_front 28) f = f (.getfield 12, 31, 6, 0, 0, 0, 0)) ∧
  (∀ f : mE → Prop, w_o (mft MX6_front 31) f = f (.iconst 0, 32, 0, 0, 0, (0), 0)) ∧
  (∀ f : mE → Prop, w_o (mft MX6_front 32) f = f (.putfield 62, 35, 4, 1, 0, 0, 0)) ∧
  (∀ f : mE → Prop, w_o (mft MX6_front 35) f = f (.aload_n 0, 36, 0, 0, 0, 0, 0)) ∧
  (∀ f : mE → Prop, w_o (mft MX6_front 36) f = f (.getfield 58, 39, 6, 8, 0, 0, 0)) ∧
  (∀ f : mE → Prop, w_o (mft MX6_front 39) f = f (.ifCond .ne 10, 42, 49, 0, 0, 0, 0)) ∧
  (∀ f : mE → Prop, w_o (mft MX6_front 42) f = f (.aload_n 0, 43, 0, 0, 0, 0, 0)) ∧
  (∀ f : mE → Prop, w_o (mft MX6_front 43) f = f (.invokevirtual 73, 46, 109, 0, 6, 0, 0)) ∧
  (∀ f : mE → Prop, w_o (mft MX6_front 46) f = f (.goto 13, 49, 59, 0, 0, 0, 0)) ∧
  (∀ f : mE → Prop, w_o (mft MX6_front 49) f = f (.bipush (-10), 51, 0, 0, 0, (-10), 0)) ∧
  (∀ f : mE → Prop, w_o (mft MX6_front 51) f = f (.aload_n 0, 52, 0, 0, 0, 0, 0)) ∧
  (∀ f : mE → Prop, w_o (mft MX6_front 52) f = f (.getfield 12, 55, 6, 0, 0, 0, 0)) ∧
  (∀ f : mE → Prop, w_o (mft MX6_front 55) f = f (.getfield 77, 58, 4, 4, 0, 0, 0)) ∧
  (∀ f : mE → Prop, w_o (mft MX6_front 58) f = f (.isub, 59, 0, 0, 0, 0, 0)) ∧
  (∀ f : mE → Prop, w_o (mft MX6_front 59) f = f (.ireturn, 60, 0, 0, 0, 0, 0)) := ⟨fun _ => rfl, fun _ => rfl, fun _ => rfl, fun _ => rfl, fun _ => rfl, fun _ => rfl, fun _ => rfl, fun _ => rfl, fun _ => rfl, fun _ => rfl, fun _ => rfl, fun _ => rfl, fun _ => rfl, fun _ => rfl, fun _ => rfl, fun _ => rfl, fun _ => rfl, fun _ => rfl, fun _ => rfl, fun _ => rfl, fun _ => rfl, fun _ => rfl, fun _ => rfl, fun _ => rfl, fun _ => rfl, fun _ => rfl, fun _ => rfl, fun _ => rfl, fun _ => rfl⟩
set_option maxRecDepth 100000 in
theorem gd_X6_front : mGood MX6_front := ⟨by decide +kernel, by decide +kernel, by decide +kernel⟩
set_option maxRecDepth 100000 in
set_option maxHeartbeats 4000000 in
theorem ft_X6_fault : (∀ f : mE → Prop, w_o (mft MX6_fault 0) f = f (.aload_n 0, 1, 0, 0, 0, 0, 0)) ∧
  (∀ f : mE → Prop, w_o (mft MX6_fault 1) f = f (.getfield 58, 4, 6, 8, 0, 0, 0)) ∧
  (∀ f : mE → Prop, w_o (mft MX6_fault 4) f = f (.ireturn, 5, 0, 0, 0, 0, 0)) := ⟨fun _ => rfl, fun _ => rfl, fun _ => rfl⟩
set_option maxRecDepth 100000 in
theorem gd_X6_fault : mGood MX6_fault := ⟨by decide +kernel, by decide +kernel, by decide +kernel⟩
set_option maxRecDepth 100000 in
set_option maxHeartbeats 4000000 in
theorem ft_X6_sheet : (∀ f : mE → Prop, w_o (mft MX6_sheet 0) f = f (.iload_n 1, 1, 1, 0, 0, 0, 0)) ∧
  (∀ f : mE → Prop, w_o (mft MX6_sheet 1) f = f (.invokestatic 80, 4, 104, 1, 6, 0, 0)) ∧
  (∀ f : mE → Prop, w_o (mft MX6_sheet 4) f = f (.ifCond .eq 16, 7, 20, 0, 0, 0, 0)) ∧
  (∀ f : mE → Prop, w_o (mft MX6_sheet 7) f = f (.iload_n 2, 8, 2, 0, 0, 0, 0)) ∧
  (∀ f : mE → Prop, w_o (mft MX6_sheet 8) f = f (.invokestatic 84, 11, 105, 1, 6, 0, 0)) ∧
  (∀ f : mE → Prop, w_o (mft MX6_sheet 11) f = f (.ifCond .eq 9, 14, 20, 0, 0, 0, 0)) ∧
  (∀ f : mE → Prop, w_o (mft MX6_sheet 14) f = f (.iload_n 3, 15, 3, 0, 0, 0, 0)) ∧
  (∀ f : mE → Prop, w_o (mft MX6_sheet 15) f = f (.bipush 62, 17, 0, 0, 0, (62), 0)) ∧
  (∀ f : mE → Prop, w_o (mft MX6_sheet 17) f = f (.if_icmp .le 5, 20, 22, 0, 0, 0, 0)) ∧
  (∀ f : mE → Prop, w_o (mft MX6_sheet 20) f = f (.iconst (-1), 21, 0, 0, 0, (-1), 0)) ∧
  (∀ f : mE → Prop, w_o (mft MX6_sheet 21) f = f (.ireturn, 22, 0, 0, 0, 0, 0)) ∧
  (∀ f : mE → Prop, w_o (mft MX6_sheet 22) f = f (.iload_n 3, 23, 3, 0, 0, 0, 0)) ∧
  (∀ f : mE → Prop, w_o (mft MX6_sheet 23) f = f (.ifCond .ge 6, 26, 29, 0, 0, 0, 0)) ∧
  (∀ f : mE → Prop, w_o (mft MX6_sheet 26) f = f (.bipush (-14), 28, 0, 0, 0, (-14), 0)) ∧
  (∀ f : mE → Prop, w_o (mft MX6_sheet 28) f = f (.ireturn, 29, 0, 0, 0, 0, 0)) ∧
  (∀ f : mE → Prop, w_o (mft MX6_sheet 29) f = f (.aload_n 0, 30, 0, 0, 0, 0, 0)) ∧
  (∀ f : mE → Prop, w_o (mft MX6_sheet 30) f = f (.getfield 18, 33, 6, 1, 0, 0, 0)) ∧
  (∀ f : mE → Prop, w_o (mft MX6_sheet 33) f = f (.iload_n 1, 34, 1, 0, 0, 0, 0)) ∧
  (∀ f : mE → Prop, w_o (mft MX6_sheet 34) f = f (.aaload, 35, 5, 0, 0, 0, 0)) ∧
  (∀ f : mE → Prop, w_o (mft MX6_sheet 35) f = f (.iload_n 2, 36, 2, 0, 0, 0, 0)) ∧
  (∀ f : mE → Prop, w_o (mft MX6_sheet 36) f = f (.iload_n 3, 37, 3, 0, 0, 0, 0)) ∧
  (∀ f : mE → Prop, w_o (mft MX6_sheet 37) f = f (.invokevirtual 87, 40, 29, 2, 2, 0, 0)) ∧
  (∀ f : mE → Prop, w_o (mft MX6_sheet 40) f = f (.iconst 1, 41, 0, 0, 0, (1), 0)) ∧
  (∀ f : mE → Prop, w_o (mft MX6_sheet 41) f = f (.ireturn, 42, 0, 0, 0, 0, 0)) := ⟨fun _ => rfl, fun _ => rfl, fun _ => rfl, fun _ => rfl, fun _ => rfl, fun _ => rfl, fun _ => rfl, fun _ => rfl, fun _ => rfl, fun _ => rfl, fun _ => rfl, fun _ => rfl, fun _ => rfl, fun _ => rfl, fun _ => rfl, fun _ => rfl, fun _ => rfl, fun _ => rfl, fun _ => rfl, fun _ => rfl, fun _ => rfl, fun _ => rfl, fun _ => rfl, fun _ => rfl⟩
set_option maxRecDepth 100000 in
theorem gd_X6_sheet : mGood MX6_sheet := ⟨by decide +kernel, by decide +kernel, by decide +kernel⟩
set_option maxRecDepth 100000 in
set_option maxHeartbeats 4000000 in
theorem ft_X6_lay : (∀ f : mE → Prop, w_o (mft MX6_lay 0) f = f (.iload_n 1, 1, 1, 0, 0, 0, 0)) ∧
  (∀ f : mE → Prop, w_o (mft MX6_lay 1) f = f (.invokestatic 80, 4, 104, 1, 6, 0, 0)) ∧
  (∀ f : mE → Prop, w_o (mft MX6_lay 4) f = f (.ifCond .ne 5, 7, 9, 0, 0, 0, 0)) ∧
  (∀ f : mE → Prop, w_o (mft MX6_lay 7) f = f (.iconst (-1), 8, 0, 0, 0, (-1), 0)) ∧
  (∀ f : mE → Prop, w_o (mft MX6_lay 8) f = f (.ireturn, 9, 0, 0, 0, 0, 0)) ∧
  (∀ f : mE → Prop, w_o (mft MX6_lay 9) f = f (.aload_n 0, 10, 0, 0, 0, 0, 0)) ∧
  (∀ f : mE → Prop, w_o (mft MX6_lay 10) f = f (.getfield 18, 13, 6, 1, 0, 0, 0)) ∧
  (∀ f : mE → Prop, w_o (mft MX6_lay 13) f = f (.iload_n 1, 14, 1, 0, 0, 0, 0)) ∧
  (∀ f : mE → Prop, w_o (mft MX6_lay 14) f = f (.aaload, 15, 5, 0, 0, 0, 0)) ∧
  (∀ f : mE → Prop, w_o (mft MX6_lay 15) f = f (.iload_n 2, 16, 2, 0, 0, 0, 0)) ∧
  (∀ f : mE → Prop, w_o (mft MX6_lay 16) f = f (.iload_n 3, 17, 3, 0, 0, 0, 0)) ∧
  (∀ f : mE → Prop, w_o (mft MX6_lay 17) f = f (.invokevirtual 91, 20, 30, 2, 2, 0, 0)) ∧
  (∀ f : mE → Prop, w_o (mft MX6_lay 20) f = f (.istore 4, 22, 4, 0, 0, 0, 0)) ∧
  (∀ f : mE → Prop, w_o (mft MX6_lay 22) f = f (.iload 4, 24, 4, 0, 0, 0, 0)) ∧
  (∀ f : mE → Prop, w_o (mft MX6_lay 24) f = f (.ifCond .ne 7, 27, 31, 0, 0, 0, 0)) ∧
  (∀ f : mE → Prop, w_o (mft MX6_lay 27) f = f (.iconst 1, 28, 0, 0, 0, (1), 0)) ∧
  (∀ f : mE → Prop, w_o (mft MX6_lay 28) f = f (.goto 8, 31, 36, 0, 0, 0, 0)) ∧
  (∀ f : mE → Prop, w_o (mft MX6_lay 31) f = f (.bipush (-10), 33, 0, 0, 0, (-10), 0)) ∧
  (∀ f : mE → Prop, w_o (mft MX6_lay 33) f = f (.iload 4, 35, 4, 0, 0, 0, 0)) ∧
  (∀ f : mE → Prop, w_o (mft MX6_lay 35) f = f (.isub, 36, 0, 0, 0, 0, 0)) ∧
  (∀ f : mE → Prop, w_o (mft MX6_lay 36) f = f (.ireturn, 37, 0, 0, 0, 0, 0)) := ⟨fun _ => rfl, fun _ => rfl, fun _ => rfl, fun _ => rfl, fun _ => rfl, fun _ => rfl, fun _ => rfl, fun _ => rfl, fun _ => rfl, fun _ => rfl, fun _ => rfl, fun _ => rfl, fun _ => rfl, fun _ => rfl, fun _ => rfl, fun _ => rfl, fun _ => rfl, fun _ => rfl, fun _ => rfl, fun _ => rfl, fun _ => rfl⟩
set_option maxRecDepth 100000 in
theorem gd_X6_lay : mGood MX6_lay := ⟨by decide +kernel, by decide +kernel, by decide +kernel⟩
set_option maxRecDepth 100000 in
set_option maxHeartbeats 4000000 in
theorem ft_X6_draw : (∀ f : mE → Prop, w_o (mft MX6_draw 0) f = f (.iload_n 1, 1, 1, 0, 0, 0, 0)) ∧
  (∀ f : mE → Prop, w_o (mft MX6_draw 1) f = f (.invokestatic 80, 4, 104, 1, 6, 0, 0)) ∧
  (∀ f : mE → Prop, w_o (mft MX6_draw 4) f = f (.ifCond .eq 23, 7, 27, 0, 0, 0, 0)) ∧
  (∀ f : mE → Prop, w_o (mft MX6_draw 7) f = f (.iload_n 2, 8, 2, 0, 0, 0, 0)) ∧
  (∀ f : mE → Prop, w_o (mft MX6_draw 8) f = f (.invokestatic 84, 11, 105, 1, 6, 0, 0)) ∧
  (∀ f : mE → Prop, w_o (mft MX6_draw 11) f = f (.ifCond .eq 16, 14, 27, 0, 0, 0, 0)) ∧
  (∀ f : mE → Prop, w_o (mft MX6_draw 14) f = f (.iload 4, 16, 4, 0, 0, 0, 0)) ∧
  (∀ f : mE → Prop, w_o (mft MX6_draw 16) f = f (.iconst 1, 17, 0, 0, 0, (1), 0)) ∧
  (∀ f : mE → Prop, w_o (mft MX6_draw 17) f = f (.if_icmp .lt 10, 20, 27, 0, 0, 0, 0)) ∧
  (∀ f : mE → Prop, w_o (mft MX6_draw 20) f = f (.iload 4, 22, 4, 0, 0, 0, 0)) ∧
  (∀ f : mE → Prop, w_o (mft MX6_draw 22) f = f (.bipush 30, 24, 0, 0, 0, (30), 0)) ∧
  (∀ f : mE → Prop, w_o (mft MX6_draw 24) f = f (.if_icmp .le 5, 27, 29, 0, 0, 0, 0)) ∧
  (∀ f : mE → Prop, w_o (mft MX6_draw 27) f = f (.iconst (-1), 28, 0, 0, 0, (-1), 0)) ∧
  (∀ f : mE → Prop, w_o (mft MX6_draw 28) f = f (.ireturn, 29, 0, 0, 0, 0, 0)) ∧
  (∀ f : mE → Prop, w_o (mft MX6_draw 29) f = f (.aload_n 0, 30, 0, 0, 0, 0, 0)) ∧
  (∀ f : mE → Prop, w_o (mft MX6_draw 30) f = f (.getfield 18, 33, 6, 1, 0, 0, 0)) ∧
  (∀ f : mE → Prop, w_o (mft MX6_draw 33) f = f (.iload_n 1, 34, 1, 0, 0, 0, 0)) ∧
  (∀ f : mE → Prop, w_o (mft MX6_draw 34) f = f (.aaload, 35, 5, 0, 0, 0, 0)) ∧
  (∀ f : mE → Prop, w_o (mft MX6_draw 35) f = f (.aload_n 0, 36, 0, 0, 0, 0, 0)) ∧
  (∀ f : mE → Prop, w_o (mft MX6_draw 36) f = f (.getfield 29, 39, 6, 3, 0, 0, 0)) ∧
  (∀ f : mE → Prop, w_o (mft MX6_draw 39) f = f (.iload_n 2, 40, 2, 0, 0, 0, 0)) ∧
  (∀ f : mE → Prop, w_o (mft MX6_draw 40) f = f (.iload_n 3, 41, 3, 0, 0, 0, 0)) ∧
  (∀ f : mE → Prop, w_o (mft MX6_draw 41) f = f (.iload 4, 43, 4, 0, 0, 0, 0)) ∧
  (∀ f : mE → Prop, w_o (mft MX6_draw 43) f = f (.invokevirtual 95, 46, 32, 4, 2, 0, 0)) ∧
  (∀ f : mE → Prop, w_o (mft MX6_draw 46) f = f (.istore 5, 48, 5, 0, 0, 0, 0)) ∧
  (∀ f : mE → Prop, w_o (mft MX6_draw 48) f = f (.iload 5, 50, 5, 0, 0, 0, 0)) ∧
  (∀ f : mE → Prop, w_o (mft MX6_draw 50) f = f (.ifCond .ne 10, 53, 60, 0, 0, 0, 0)) ∧
  (∀ f : mE → Prop, w_o (mft MX6_draw 53) f = f (.aload_n 0, 54, 0, 0, 0, 0, 0)) ∧
  (∀ f : mE → Prop, w_o (mft MX6_draw 54) f = f (.invokevirtual 73, 57, 109, 0, 6, 0, 0)) ∧
  (∀ f : mE → Prop, w_o (mft MX6_draw 57) f = f (.goto 5, 60, 62, 0, 0, 0, 0)) ∧
  (∀ f : mE → Prop, w_o (mft MX6_draw 60) f = f (.iload 5, 62, 5, 0, 0, 0, 0)) ∧
  (∀ f : mE → Prop, w_o (mft MX6_draw 62) f = f (.ireturn, 63, 0, 0, 0, 0, 0)) := ⟨fun _ => rfl, fun _ => rfl, fun _ => rfl, fun _ => rfl, fun _ => rfl, fun _ => rfl, fun _ => rfl, fun _ => rfl, fun _ => rfl, fun _ => rfl, fun _ => rfl, fun _ => rfl, fun _ => rfl, fun _ => rfl, fun _ => rfl, fun _ => rfl, fun _ => rfl, fun _ => rfl, fun _ => rfl, fun _ => rfl, fun _ => rfl, fun _ => rfl, fun _ => rfl, fun _ => rfl, fun _ => rfl, fun _ => rfl, fun _ => rfl, fun _ => rfl, fun _ => rfl, fun _ => rfl, fun _ => rfl, fun _ => rfl⟩
set_option maxRecDepth 100000 in
theorem gd_X6_draw : mGood MX6_draw := ⟨by decide +kernel, by decide +kernel, by decide +kernel⟩
set_option maxRecDepth 100000 in
set_option maxHeartbeats 4000000 in
theorem ft_X6_copy : (∀ f : mE → Prop, w_o (mft MX6_copy 0) f = f (.aload_n 0, 1, 0, 0, 0, 0, 0)) ∧
  (∀ f : mE → Prop, w_o (mft MX6_copy 1) f = f (.iload_n 1, 2, 1, 0, 0, 0, 0)) ∧
  (∀ f : mE → Prop, w_o (mft MX6_copy 2) f = f (.invokevirtual 98, 5, 101, 1, 6, 0, 0)) ∧
  (∀ f : mE → Prop, w_o (mft MX6_copy 5) f = f (.ifCond .ne 5, 8, 10, 0, 0, 0, 0)) ∧
  (∀ f : mE → Prop, w_o (mft MX6_copy 8) f = f (.iconst (-1), 9, 0, 0, 0, (-1), 0)) ∧
  (∀ f : mE → Prop, w_o (mft MX6_copy 9) f = f (.ireturn, 10, 0, 0, 0, 0, 0)) ∧
  (∀ f : mE → Prop, w_o (mft MX6_copy 10) f = f (.aload_n 0, 11, 0, 0, 0, 0, 0)) ∧
  (∀ f : mE → Prop, w_o (mft MX6_copy 11) f = f (.getfield 29, 14, 6, 3, 0, 0, 0)) ∧
  (∀ f : mE → Prop, w_o (mft MX6_copy 14) f = f (.aload_n 0, 15, 0, 0, 0, 0, 0)) ∧
  (∀ f : mE → Prop, w_o (mft MX6_copy 15) f = f (.getfield 24, 18, 6, 2, 0, 0, 0)) ∧
  (∀ f : mE → Prop, w_o (mft MX6_copy 18) f = f (.iload_n 1, 19, 1, 0, 0, 0, 0)) ∧
  (∀ f : mE → Prop, w_o (mft MX6_copy 19) f = f (.aaload, 20, 4, 0, 0, 0, 0)) ∧
  (∀ f : mE → Prop, w_o (mft MX6_copy 20) f = f (.invokevirtual 101, 23, 2, 1, 0, 0, 0)) ∧
  (∀ f : mE → Prop, w_o (mft MX6_copy 23) f = f (.aload_n 0, 24, 0, 0, 0, 0, 0)) ∧
  (∀ f : mE → Prop, w_o (mft MX6_copy 24) f = f (.invokevirtual 73, 27, 109, 0, 6, 0, 0)) ∧
  (∀ f : mE → Prop, w_o (mft MX6_copy 27) f = f (.ireturn, 28, 0, 0, 0, 0, 0)) := ⟨fun _ => rfl, fun _ => rfl, fun _ => rfl, fun _ => rfl, fun _ => rfl, fun _ => rfl, fun _ => rfl, fun _ => rfl, fun _ => rfl, fun _ => rfl, fun _ => rfl, fun _ => rfl, fun _ => rfl, fun _ => rfl, fun _ => rfl, fun _ => rfl⟩
set_option maxRecDepth 100000 in
theorem gd_X6_copy : mGood MX6_copy := ⟨by decide +kernel, by decide +kernel, by decide +kernel⟩
set_option maxRecDepth 100000 in
set_option maxHeartbeats 4000000 in
theorem ft_X6_drop : (∀ f : mE → Prop, w_o (mft MX6_drop 0) f = f (.aload_n 0, 1, 0, 0, 0, 0, 0)) ∧
  (∀ f : mE → Prop, w_o (mft MX6_drop 1) f = f (.getfield 54, 4, 6, 7, 0, 0, 0)) ∧
  (∀ f : mE → Prop, w_o (mft MX6_drop 4) f = f (.ifCond .ne 6, 7, 10, 0, 0, 0, 0)) ∧
  (∀ f : mE → Prop, w_o (mft MX6_drop 7) f = f (.bipush (-4), 9, 0, 0, 0, (-4), 0)) ∧
  (∀ f : mE → Prop, w_o (mft MX6_drop 9) f = f (.ireturn, 10, 0, 0, 0, 0, 0)) ∧
  (∀ f : mE → Prop, w_o (mft MX6_drop 10) f = f (.aload_n 0, 11, 0, 0, 0, 0, 0)) ∧
  (∀ f : mE → Prop, w_o (mft MX6_drop 11) f = f (.dup, 12, 0, 0, 0, 0, 0)) ∧
  (∀ f : mE → Prop, w_o (mft MX6_drop 12) f = f (.getfield 54, 15, 6, 7, 0, 0, 0)) ∧
  (∀ f : mE → Prop, w_o (mft MX6_drop 15) f = f (.iconst 1, 16, 0, 0, 0, (1), 0)) ∧
  (∀ f : mE → Prop, w_o (mft MX6_drop 16) f = f (.isub, 17, 0, 0, 0, 0, 0)) ∧
  (∀ f : mE → Prop, w_o (mft MX6_drop 17) f = f (.putfield 54, 20, 6, 7, 0, 0, 0)) ∧
  (∀ f : mE → Prop, w_o (mft MX6_drop 20) f = f (.aload_n 0, 21, 0, 0, 0, 0, 0)) ∧
  (∀ f : mE → Prop, w_o (mft MX6_drop 21) f = f (.getfield 54, 24, 6, 7, 0, 0, 0)) ∧
  (∀ f : mE → Prop, w_o (mft MX6_drop 24) f = f (.ireturn, 25, 0, 0, 0, 0, 0)) := ⟨fun _ => rfl, fun _ => rfl, fun _ => rfl, fun _ => rfl, fun _ => rfl, fun _ => rfl, fun _ => rfl, fun _ => rfl, fun _ => rfl, fun _ => rfl, fun _ => rfl, fun _ => rfl, fun _ => rfl, fun _ => rfl⟩
set_option maxRecDepth 100000 in
theorem gd_X6_drop : mGood MX6_drop := ⟨by decide +kernel, by decide +kernel, by decide +kernel⟩
set_option maxRecDepth 100000 in
set_option maxHeartbeats 4000000 in
theorem ft_X6_event : (∀ f : mE → Prop, w_o (mft MX6_event 0) f = f (.aload_n 0, 1, 0, 0, 0, 0, 0)) ∧
  (∀ f : mE → Prop, w_o (mft MX6_event 1) f = f (.iload_n 1, 2, 1, 0, 0, 0, 0)) ∧
  (∀ f : mE → Prop, w_o (mft MX6_event 2) f = f (.iload_n 2, 3, 2, 0, 0, 0, 0)) ∧
  (∀ f : mE → Prop, w_o (mft MX6_event 3) f = f (.invokevirtual 105, 6, 102, 2, 6, 0, 0)) ∧
  (∀ f : mE → Prop, w_o (mft MX6_event 6) f = f (.ifCond .ne 5, 9, 11, 0, 0, 0, 0)) ∧
  (∀ f : mE → Prop, w_o (mft MX6_event 9) f = f (.iconst (-1), 10, 0, 0, 0, (-1), 0)) ∧
  (∀ f : mE → Prop, w_o (mft MX6_event 10) f = f (.ireturn, 11, 0, 0, 0, 0, 0)) ∧
  (∀ f : mE → Prop, w_o (mft MX6_event 11) f = f (.iload_n 3, 12, 3, 0, 0, 0, 0)) ∧
  (∀ f : mE → Prop, w_o (mft MX6_event 12) f = f (.tableswitch 64 0 2 #[28, 40, 52], 40, 0, 0, 0, 0, 0)) ∧
  (∀ f : mE → Prop, w_o (mft MX6_event 40) f = f (.aload_n 0, 41, 0, 0, 0, 0, 0)) ∧
  (∀ f : mE → Prop, w_o (mft MX6_event 41) f = f (.getfield 24, 44, 6, 2, 0, 0, 0)) ∧
  (∀ f : mE → Prop, w_o (mft MX6_event 44) f = f (.iload_n 1, 45, 1, 0, 0, 0, 0)) ∧
  (∀ f : mE → Prop, w_o (mft MX6_event 45) f = f (.aaload, 46, 4, 0, 0, 0, 0)) ∧
  (∀ f : mE → Prop, w_o (mft MX6_event 46) f = f (.getfield 109, 49, 0, 0, 0, 0, 0)) ∧
  (∀ f : mE → Prop, w_o (mft MX6_event 49) f = f (.iload_n 2, 50, 2, 0, 0, 0, 0)) ∧
  (∀ f : mE → Prop, w_o (mft MX6_event 50) f = f (.iaload, 51, 0, 0, 0, 0, 0)) ∧
  (∀ f : mE → Prop, w_o (mft MX6_event 51) f = f (.ireturn, 52, 0, 0, 0, 0, 0)) ∧
  (∀ f : mE → Prop, w_o (mft MX6_event 52) f = f (.aload_n 0, 53, 0, 0, 0, 0, 0)) ∧
  (∀ f : mE → Prop, w_o (mft MX6_event 53) f = f (.getfield 24, 56, 6, 2, 0, 0, 0)) ∧
  (∀ f : mE → Prop, w_o (mft MX6_event 56) f = f (.iload_n 1, 57, 1, 0, 0, 0, 0)) ∧
  (∀ f : mE → Prop, w_o (mft MX6_event 57) f = f (.aaload, 58, 4, 0, 0, 0, 0)) ∧
  (∀ f : mE → Prop, w_o (mft MX6_event 58) f = f (.getfield 113, 61, 0, 1, 0, 0, 0)) ∧
  (∀ f : mE → Prop, w_o (mft MX6_event 61) f = f (.iload_n 2, 62, 2, 0, 0, 0, 0)) ∧
  (∀ f : mE → Prop, w_o (mft MX6_event 62) f = f (.iaload, 63, 0, 0, 0, 0, 0)) ∧
  (∀ f : mE → Prop, w_o (mft MX6_event 63) f = f (.ireturn, 64, 0, 0, 0, 0, 0)) ∧
  (∀ f : mE → Prop, w_o (mft MX6_event 64) f = f (.aload_n 0, 65, 0, 0, 0, 0, 0)) ∧
  (∀ f : mE → Prop, w_o (mft MX6_event 65) f = f (.getfield 24, 68, 6, 2, 0, 0, 0)) ∧
  (∀ f : mE → Prop, w_o (mft MX6_event 68) f = f (.iload_n 1, 69, 1, 0, 0, 0, 0)) ∧
  (∀ f : mE → Prop, w_o (mft MX6_event 69) f = f (.aaload, 70, 4, 0, 0, 0, 0)) ∧
  (∀ f : mE → Prop, w_o (mft MX6_event 70) f = f (.getfield 116, 73, 0, 2, 0, 0, 0)) ∧
  (∀ f : mE → Prop, w_o (mft MX6_event 73) f = f (.iload_n 2, 74, 2, 0, 0, 0, 0)) ∧
  (∀ f : mE → Prop, w_o (mft MX6_event 74) f = f (.iaload, 75, 0, 0, 0, 0, 0)) ∧
  (∀ f : mE → Prop, w_o (mft MX6_event 75) f = f (.ireturn, 76, 0, 0, 0, 0, 0)) ∧
  (∀ f : mE → Prop, w_o (mft MX6_event 76) f = f (.iconst (-1), 77, 0, 0, 0, (-1), 0)) ∧
  (∀ f : mE → Prop, w_o (mft MX6_event 77) f = f (.ireturn, 78, 0, 0, 0, 0, 0)) := ⟨fun _ => rfl, fun _ => rfl, fun _ => rfl, fun _ => rfl, fun _ => rfl, fun _ => rfl, fun _ => rfl, fun _ => rfl, fun _ => rfl, fun _ => rfl, fun _ => rfl, fun _ => rfl, fun _ => rfl, fun _ => rfl, fun _ => rfl, fun _ => rfl, fun _ => rfl, fun _ => rfl, fun _ => rfl, fun _ => rfl, fun _ => rfl, fun _ => rfl, fun _ => rfl, fun _ => rfl, fun _ => rfl, fun _ => rfl, fun _ => rfl, fun _ => rfl, fun _ => rfl, fun _ => rfl, fun _ => rfl, fun _ => rfl, fun _ => rfl, fun _ => rfl, fun _ => rfl⟩
set_option maxRecDepth 100000 in
theorem gd_X6_event : mGood MX6_event := ⟨by decide +kernel, by decide +kernel, by decide +kernel⟩
set_option maxRecDepth 100000 in
set_option maxHeartbeats 4000000 in
theorem ft_X6_about : (∀ f : mE → Prop, w_o (mft MX6_about 0) f = f (.aload_n 0, 1, 0, 0, 0, 0, 0)) ∧
  (∀ f : mE → Prop, w_o (mft MX6_about 1) f = f (.iload_n 1, 2, 1, 0, 0, 0, 0)) ∧
  (∀ f : mE → Prop, w_o (mft MX6_about 2) f = f (.invokevirtual 98, 5, 101, 1, 6, 0, 0)) ∧
  (∀ f : mE → Prop, w_o (mft MX6_about 5) f = f (.ifCond .ne 5, 8, 10, 0, 0, 0, 0)) ∧
  (∀ f : mE → Prop, w_o (mft MX6_about 8) f = f (.iconst (-1), 9, 0, 0, 0, (-1), 0)) ∧
  (∀ f : mE → Prop, w_o (mft MX6_about 9) f = f (.ireturn, 10, 0, 0, 0, 0, 0)) ∧
  (∀ f : mE → Prop, w_o (mft MX6_about 10) f = f (.aload_n 0, 11, 0, 0, 0, 0, 0)) ∧
  (∀ f : mE → Prop, w_o (mft MX6_about 11) f = f (.getfield 24, 14, 6, 2, 0, 0, 0)) ∧
  (∀ f : mE → Prop, w_o (mft MX6_about 14) f = f (.iload_n 1, 15, 1, 0, 0, 0, 0)) ∧
  (∀ f : mE → Prop, w_o (mft MX6_about 15) f = f (.aaload, 16, 4, 0, 0, 0, 0)) ∧
  (∀ f : mE → Prop, w_o (mft MX6_about 16) f = f (.astore_n 3, 17, 3, 0, 0, 0, 0)) ∧
  (∀ f : mE → Prop, w_o (mft MX6_about 17) f = f (.iload_n 2, 18, 2, 0, 0, 0, 0)) ∧
  (∀ f : mE → Prop, w_o (mft MX6_about 18) f = f (.tableswitch 83 0 5 #[38, 43, 48, 60, 69, 74], 56, 0, 0, 0, 0, 0)) ∧
  (∀ f : mE → Prop, w_o (mft MX6_about 56) f = f (.aload_n 3, 57, 3, 0, 0, 0, 0)) ∧
  (∀ f : mE → Prop, w_o (mft MX6_about 57) f = f (.getfield 119, 60, 0, 3, 0, 0, 0)) ∧
  (∀ f : mE → Prop, w_o (mft MX6_about 60) f = f (.ireturn, 61, 0, 0, 0, 0, 0)) ∧
  (∀ f : mE → Prop, w_o (mft MX6_about 61) f = f (.aload_n 3, 62, 3, 0, 0, 0, 0)) ∧
  (∀ f : mE → Prop, w_o (mft MX6_about 62) f = f (.getfield 122, 65, 0, 4, 0, 0, 0)) ∧
  (∀ f : mE → Prop, w_o (mft MX6_about 65) f = f (.ireturn, 66, 0, 0, 0, 0, 0)) ∧
  (∀ f : mE → Prop, w_o (mft MX6_about 66) f = f (.aload_n 3, 67, 3, 0, 0, 0, 0)) ∧
  (∀ f : mE → Prop, w_o (mft MX6_about 67) f = f (.getfield 119, 70, 0, 3, 0, 0, 0)) ∧
  (∀ f : mE → Prop, w_o (mft MX6_about 70) f = f (.aload_n 3, 71, 3, 0, 0, 0, 0)) ∧
  (∀ f : mE → Prop, w_o (mft MX6_about 71) f = f (.getfield 122, 74, 0, 4, 0, 0, 0)) ∧
  (∀ f : mE → Prop, w_o (mft MX6_about 74) f = f (.isub, 75, 0, 0, 0, 0, 0)) ∧
  (∀ f : mE → Prop, w_o (mft MX6_about 75) f = f (.iconst 2, 76, 0, 0, 0, (2), 0)) ∧
  (∀ f : mE → Prop, w_o (mft MX6_about 76) f = f (.idiv, 77, 0, 0, 0, 0, 0)) ∧
  (∀ f : mE → Prop, w_o (mft MX6_about 77) f = f (.ireturn, 78, 0, 0, 0, 0, 0)) ∧
  (∀ f : mE → Prop, w_o (mft MX6_about 78) f = f (.aload_n 0, 79, 0, 0, 0, 0, 0)) ∧
  (∀ f : mE → Prop, w_o (mft MX6_about 79) f = f (.iload_n 1, 80, 1, 0, 0, 0, 0)) ∧
  (∀ f : mE → Prop, w_o (mft MX6_about 80) f = f (.invokevirtual 125, 83, 108, 1, 6, 0, 0)) ∧
  (∀ f : mE → Prop, w_o (mft MX6_about 83) f = f (.getfield 129, 86, 5, 9, 0, 0, 0)) ∧
  (∀ f : mE → Prop, w_o (mft MX6_about 86) f = f (.ireturn, 87, 0, 0, 0, 0, 0)) ∧
  (∀ f : mE → Prop, w_o (mft MX6_about 87) f = f (.aload_n 3, 88, 3, 0, 0, 0, 0)) ∧
  (∀ f : mE → Prop, w_o (mft MX6_about 88) f = f (.invokevirtual 132, 91, 9, 0, 0, 0, 0)) ∧
  (∀ f : mE → Prop, w_o (mft MX6_about 91) f = f (.ireturn, 92, 0, 0, 0, 0, 0)) ∧
  (∀ f : mE → Prop, w_o (mft MX6_about 92) f = f (.aload_n 0, 93, 0, 0, 0, 0, 0)) ∧
  (∀ f : mE → Prop, w_o (mft MX6_about 93) f = f (.iload_n 1, 94, 1, 0, 0, 0, 0)) ∧
  (∀ f : mE → Prop, w_o (mft MX6_about 94) f = f (.invokevirtual 125, 97, 108, 1, 6, 0, 0)) ∧
  (∀ f : mE → Prop, w_o (mft MX6_about 97) f = f (.invokevirtual 135, 100, 69, 0, 5, 0, 0)) ∧
  (∀ f : mE → Prop, w_o (mft MX6_about 100) f = f (.ireturn, 101, 0, 0, 0, 0, 0)) ∧
  (∀ f : mE → Prop, w_o (mft MX6_about 101) f = f (.iconst (-1), 102, 0, 0, 0, (-1), 0)) ∧
  (∀ f : mE → Prop, w_o (mft MX6_about 102) f = f (.ireturn, 103, 0, 0, 0, 0, 0)) := ⟨fun _ => rfl, fun _ => rfl, fun _ => rfl, fun _ => rfl, fun _ => rfl, fun _ => rfl, fun _ => rfl, fun _ => rfl, fun _ => rfl, fun _ => rfl, fun _ => rfl, fun _ => rfl, fun _ => rfl, fun _ => rfl, fun _ => rfl, fun _ => rfl, fun _ => rfl, fun _ => rfl, fun _ => rfl, fun _ => rfl, fun _ => rfl, fun _ => rfl, fun _ => rfl, fun _ => rfl, fun _ => rfl, fun _ => rfl, fun _ => rfl, fun _ => rfl, fun _ => rfl, fun _ => rfl, fun _ => rfl, fun _ => rfl, fun _ => rfl, fun _ => rfl, fun _ => rfl, fun _ => rfl, fun _ => rfl, fun _ => rfl, fun _ => rfl, fun _ => rfl, fun _ => rfl, fun _ => rfl⟩
set_option maxRecDepth 100000 in
theorem gd_X6_about : mGood MX6_about := ⟨by decide +kernel, by decide +kernel, by decide +kernel⟩
set_option maxRecDepth 100000 in
set_option maxHeartbeats 4000000 in
theorem ft_X6_piece : (∀ f : mE → Prop, w_o (mft MX6_piece 0) f = f (.aload_n 0, 1, 0, 0, 0, 0, 0)) ∧
  (∀ f : mE → Prop, w_o (mft MX6_piece 1) f = f (.iload_n 1, 2, 1, 0, 0, 0, 0)) ∧
  (∀ f : mE → Prop, w_o (mft MX6_piece 2) f = f (.iload_n 2, 3, 2, 0, 0, 0, 0)) ∧
  (∀ f : mE → Prop, w_o (mft MX6_piece 3) f = f (.invokevirtual 105, 6, 102, 2, 6, 0, 0)) ∧
  (∀ f : mE → Prop, w_o (mft MX6_piece 6) f = f (.ifCond .eq 22, 9, 28, 0, 0, 0, 0)) ∧
  (∀ f : mE → Prop, w_o (mft MX6_piece 9) f = f (.iload_n 3, 10, 3, 0, 0, 0, 0)) ∧
  (∀ f : mE → Prop, w_o (mft MX6_piece 10) f = f (.ifCond .lt 18, 13, 28, 0, 0, 0, 0)) ∧
  (∀ f : mE → Prop, w_o (mft MX6_piece 13) f = f (.iload_n 3, 14, 3, 0, 0, 0, 0)) ∧
  (∀ f : mE → Prop, w_o (mft MX6_piece 14) f = f (.aload_n 0, 15, 0, 0, 0, 0, 0)) ∧
  (∀ f : mE → Prop, w_o (mft MX6_piece 15) f = f (.getfield 24, 18, 6, 2, 0, 0, 0)) ∧
  (∀ f : mE → Prop, w_o (mft MX6_piece 18) f = f (.iload_n 1, 19, 1, 0, 0, 0, 0)) ∧
  (∀ f : mE → Prop, w_o (mft MX6_piece 19) f = f (.aaload, 20, 4, 0, 0, 0, 0)) ∧
  (∀ f : mE → Prop, w_o (mft MX6_piece 20) f = f (.getfield 116, 23, 0, 2, 0, 0, 0)) ∧
  (∀ f : mE → Prop, w_o (mft MX6_piece 23) f = f (.iload_n 2, 24, 2, 0, 0, 0, 0)) ∧
  (∀ f : mE → Prop, w_o (mft MX6_piece 24) f = f (.iaload, 25, 0, 0, 0, 0, 0)) ∧
  (∀ f : mE → Prop, w_o (mft MX6_piece 25) f = f (.if_icmp .lt 5, 28, 30, 0, 0, 0, 0)) ∧
  (∀ f : mE → Prop, w_o (mft MX6_piece 28) f = f (.iconst (-1), 29, 0, 0, 0, (-1), 0)) ∧
  (∀ f : mE → Prop, w_o (mft MX6_piece 29) f = f (.ireturn, 30, 0, 0, 0, 0, 0)) ∧
  (∀ f : mE → Prop, w_o (mft MX6_piece 30) f = f (.aload_n 0, 31, 0, 0, 0, 0, 0)) ∧
  (∀ f : mE → Prop, w_o (mft MX6_piece 31) f = f (.iload_n 1, 32, 1, 0, 0, 0, 0)) ∧
  (∀ f : mE → Prop, w_o (mft MX6_piece 32) f = f (.invokevirtual 125, 35, 108, 1, 6, 0, 0)) ∧
  (∀ f : mE → Prop, w_o (mft MX6_piece 35) f = f (.iload_n 2, 36, 2, 0, 0, 0, 0)) ∧
  (∀ f : mE → Prop, w_o (mft MX6_piece 36) f = f (.iload_n 3, 37, 3, 0, 0, 0, 0)) ∧
  (∀ f : mE → Prop, w_o (mft MX6_piece 37) f = f (.invokevirtual 138, 40, 65, 2, 5, 0, 0)) ∧
  (∀ f : mE → Prop, w_o (mft MX6_piece 40) f = f (.ireturn, 41, 0, 0, 0, 0, 0)) := ⟨fun _ => rfl, fun _ => rfl, fun _ => rfl, fun _ => rfl, fun _ => rfl, fun _ => rfl, fun _ => rfl, fun _ => rfl, fun _ => rfl, fun _ => rfl, fun _ => rfl, fun _ => rfl, fun _ => rfl, fun _ => rfl, fun _ => rfl, fun _ => rfl, fun _ => rfl, fun _ => rfl, fun _ => rfl, fun _ => rfl, fun _ => rfl, fun _ => rfl, fun _ => rfl, fun _ => rfl, fun _ => rfl⟩
set_option maxRecDepth 100000 in
theorem gd_X6_piece : mGood MX6_piece := ⟨by decide +kernel, by decide +kernel, by decide +kernel⟩
set_option maxRecDepth 100000 in
set_option maxHeartbeats 4000000 in
theorem ft_X6_number : (∀ f : mE → Prop, w_o (mft MX6_number 0) f = f (.aload_n 0, 1, 0, 0, 0, 0, 0)) ∧
  (∀ f : mE → Prop, w_o (mft MX6_number 1) f = f (.iload_n 1, 2, 1, 0, 0, 0, 0)) ∧
  (∀ f : mE → Prop, w_o (mft MX6_number 2) f = f (.invokevirtual 98, 5, 101, 1, 6, 0, 0)) ∧
  (∀ f : mE → Prop, w_o (mft MX6_number 5) f = f (.ifCond .eq 15, 8, 20, 0, 0, 0, 0)) ∧
  (∀ f : mE → Prop, w_o (mft MX6_number 8) f = f (.aload_n 0, 9, 0, 0, 0, 0, 0)) ∧
  (∀ f : mE → Prop, w_o (mft MX6_number 9) f = f (.iload_n 1, 10, 1, 0, 0, 0, 0)) ∧
  (∀ f : mE → Prop, w_o (mft MX6_number 10) f = f (.invokevirtual 125, 13, 108, 1, 6, 0, 0)) ∧
  (∀ f : mE → Prop, w_o (mft MX6_number 13) f = f (.iload_n 2, 14, 2, 0, 0, 0, 0)) ∧
  (∀ f : mE → Prop, w_o (mft MX6_number 14) f = f (.invokevirtual 141, 17, 64, 1, 5, 0, 0)) ∧
  (∀ f : mE → Prop, w_o (mft MX6_number 17) f = f (.ifCond .ne 7, 20, 24, 0, 0, 0, 0)) ∧
  (∀ f : mE → Prop, w_o (mft MX6_number 20) f = f (.sipush (-1000), 23, 0, 0, 0, (-1000), 0)) ∧
  (∀ f : mE → Prop, w_o (mft MX6_number 23) f = f (.ireturn, 24, 0, 0, 0, 0, 0)) ∧
  (∀ f : mE → Prop, w_o (mft MX6_number 24) f = f (.iload_n 3, 25, 3, 0, 0, 0, 0)) ∧
  (∀ f : mE → Prop, w_o (mft MX6_number 25) f = f (.tableswitch 101 0 4 #[35, 44, 62, 71, 91], 60, 0, 0, 0, 0, 0)) ∧
  (∀ f : mE → Prop, w_o (mft MX6_number 60) f = f (.aload_n 0, 61, 0, 0, 0, 0, 0)) ∧
  (∀ f : mE → Prop, w_o (mft MX6_number 61) f = f (.getfield 43, 64, 6, 5, 0, 0, 0)) ∧
  (∀ f : mE → Prop, w_o (mft MX6_number 64) f = f (.iload_n 2, 65, 2, 0, 0, 0, 0)) ∧
  (∀ f : mE → Prop, w_o (mft MX6_number 65) f = f (.invokevirtual 144, 68, 70, 1, 5, 0, 0)) ∧
  (∀ f : mE → Prop, w_o (mft MX6_number 68) f = f (.ireturn, 69, 0, 0, 0, 0, 0)) ∧
  (∀ f : mE → Prop, w_o (mft MX6_number 69) f = f (.aload_n 0, 70, 0, 0, 0, 0, 0)) ∧
  (∀ f : mE → Prop, w_o (mft MX6_number 70) f = f (.getfield 43, 73, 6, 5, 0, 0, 0)) ∧
  (∀ f : mE → Prop, w_o (mft MX6_number 73) f = f (.iload_n 2, 74, 2, 0, 0, 0, 0)) ∧
  (∀ f : mE → Prop, w_o (mft MX6_number 74) f = f (.invokevirtual 144, 77, 70, 1, 5, 0, 0)) ∧
  (∀ f : mE → Prop, w_o (mft MX6_number 77) f = f (.aload_n 0, 78, 0, 0, 0, 0, 0)) ∧
  (∀ f : mE → Prop, w_o (mft MX6_number 78) f = f (.getfield 43, 81, 6, 5, 0, 0, 0)) ∧
  (∀ f : mE → Prop, w_o (mft MX6_number 81) f = f (.iload_n 2, 82, 2, 0, 0, 0, 0)) ∧
  (∀ f : mE → Prop, w_o (mft MX6_number 82) f = f (.invokevirtual 148, 85, 73, 1, 5, 0, 0)) ∧
  (∀ f : mE → Prop, w_o (mft MX6_number 85) f = f (.isub, 86, 0, 0, 0, 0, 0)) ∧
  (∀ f : mE → Prop, w_o (mft MX6_number 86) f = f (.ireturn, 87, 0, 0, 0, 0, 0)) ∧
  (∀ f : mE → Prop, w_o (mft MX6_number 87) f = f (.aload_n 0, 88, 0, 0, 0, 0, 0)) ∧
  (∀ f : mE → Prop, w_o (mft MX6_number 88) f = f (.getfield 43, 91, 6, 5, 0, 0, 0)) ∧
  (∀ f : mE → Prop, w_o (mft MX6_number 91) f = f (.iload_n 2, 92, 2, 0, 0, 0, 0)) ∧
  (∀ f : mE → Prop, w_o (mft MX6_number 92) f = f (.invokevirtual 151, 95, 74, 1, 5, 0, 0)) ∧
  (∀ f : mE → Prop, w_o (mft MX6_number 95) f = f (.ireturn, 96, 0, 0, 0, 0, 0)) ∧
  (∀ f : mE → Prop, w_o (mft MX6_number 96) f = f (.aload_n 0, 97, 0, 0, 0, 0, 0)) ∧
  (∀ f : mE → Prop, w_o (mft MX6_number 97) f = f (.getfield 43, 100, 6, 5, 0, 0, 0)) ∧
  (∀ f : mE → Prop, w_o (mft MX6_number 100) f = f (.getfield 154, 103, 5, 11, 0, 0, 0)) ∧
  (∀ f : mE → Prop, w_o (mft MX6_number 103) f = f (.iload_n 2, 104, 2, 0, 0, 0, 0)) ∧
  (∀ f : mE → Prop, w_o (mft MX6_number 104) f = f (.iaload, 105, 0, 0, 0, 0, 0)) ∧
  (∀ f : mE → Prop, w_o (mft MX6_number 105) f = f (.aload_n 0, 106, 0, 0, 0, 0, 0)) ∧
  (∀ f : mE → Prop, w_o (mft MX6_number 106) f = f (.getfield 43, 109, 6, 5, 0, 0, 0)) ∧
  (∀ f : mE → Prop, w_o (mft MX6_number 109) f = f (.getfield 157, 112, 5, 12, 0, 0, 0)) ∧
  (∀ f : mE → Prop, w_o (mft MX6_number 112) f = f (.iload_n 2, 113, 2, 0, 0, 0, 0)) ∧
  (∀ f : mE → Prop, w_o (mft MX6_number 113) f = f (.iaload, 114, 0, 0, 0, 0, 0)) ∧
  (∀ f : mE → Prop, w_o (mft MX6_number 114) f = f (.iadd, 115, 0, 0, 0, 0, 0)) ∧
  (∀ f : mE → Prop, w_o (mft MX6_number 115) f = f (.ireturn, 116, 0, 0, 0, 0, 0)) ∧
  (∀ f : mE → Prop, w_o (mft MX6_number 116) f = f (.aload_n 0, 117, 0, 0, 0, 0, 0)) ∧
  (∀ f : mE → Prop, w_o (mft MX6_number 117) f = f (.getfield 43, 120, 6, 5, 0, 0, 0)) ∧
  (∀ f : mE → Prop, w_o (mft MX6_number 120) f = f (.getfield 160, 123, 5, 10, 0, 0, 0)) ∧
  (∀ f : mE → Prop, w_o (mft MX6_number 123) f = f (.iload_n 2, 124, 2, 0, 0, 0, 0)) ∧
  (∀ f : mE → Prop, w_o (mft MX6_number 124) f = f (.iaload, 125, 0, 0, 0, 0, 0)) ∧
  (∀ f : mE → Prop, w_o (mft MX6_number 125) f = f (.ireturn, 126, 0, 0, 0, 0, 0)) ∧
  (∀ f : mE → Prop, w_o (mft MX6_number 126) f = f (.sipush (-1000), 129, 0, 0, 0, (-1000), 0)) ∧
  (∀ f : mE → Prop, w_o (mft MX6_number 129) f = f (.ireturn, 130, 0, 0, 0, 0, 0)) := ⟨fun _ => rfl, fun _ => rfl, fun _ => rfl, fun _ => rfl, fun _ => rfl, fun _ => rfl, fun _ => rfl, fun _ => rfl, fun _ => rfl, fun _ => rfl, fun _ => rfl, fun _ => rfl, fun _ => rfl, fun _ => rfl, fun _ => rfl, fun _ => rfl, fun _ => rfl, fun _ => rfl, fun _ => rfl, fun _ => rfl, fun _ => rfl, fun _ => rfl, fun _ => rfl, fun _ => rfl, fun _ => rfl, fun _ => rfl, fun _ => rfl, fun _ => rfl, fun _ => rfl, fun _ => rfl, fun _ => rfl, fun _ => rfl, fun _ => rfl, fun _ => rfl, fun _ => rfl, fun _ => rfl, fun _ => rfl, fun _ => rfl, fun _ => rfl, fun _ => rfl, fun _ => rfl, fun _ => rfl, fun _ => rfl, fun _ => rfl, fun _ => rfl, fun _ => rfl, fun _ => rfl, fun _ => rfl, fun _ => rfl, fun _ => rfl, fun _ => rfl, fun _ => rfl, fun _ => rfl, fun _ => rfl⟩
set_option maxRecDepth 100000 in
theorem gd_X6_number : mGood MX6_number := ⟨by decide +kernel, by decide +kernel, by decide +kernel⟩
set_option maxRecDepth 100000 in
set_option maxHeartbeats 4000000 in
theorem ft_X6_link : (∀ f : mE → Prop, w_o (mft MX6_link 0) f = f (.aload_n 0, 1, 0, 0, 0, 0, 0)) ∧
  (∀ f : mE → Prop, w_o (mft MX6_link 1) f = f (.iload_n 1, 2, 1, 0, 0, 0, 0)) ∧
  (∀ f : mE → Prop, w_o (mft MX6_link 2) f = f (.invokevirtual 98, 5, 101, 1, 6, 0, 0)) ∧
  (∀ f : mE → Prop, w_o (mft MX6_link 5) f = f (.ifCond .eq 31, 8, 36, 0, 0, 0, 0)) ∧
  (∀ f : mE → Prop, w_o (mft MX6_link 8) f = f (.aload_n 0, 9, 0, 0, 0, 0, 0)) ∧
  (∀ f : mE → Prop, w_o (mft MX6_link 9) f = f (.iload_n 1, 10, 1, 0, 0, 0, 0)) ∧
  (∀ f : mE → Prop, w_o (mft MX6_link 10) f = f (.invokevirtual 125, 13, 108, 1, 6, 0, 0)) ∧
  (∀ f : mE → Prop, w_o (mft MX6_link 13) f = f (.iload_n 2, 14, 2, 0, 0, 0, 0)) ∧
  (∀ f : mE → Prop, w_o (mft MX6_link 14) f = f (.invokevirtual 141, 17, 64, 1, 5, 0, 0)) ∧
  (∀ f : mE → Prop, w_o (mft MX6_link 17) f = f (.ifCond .eq 19, 20, 36, 0, 0, 0, 0)) ∧
  (∀ f : mE → Prop, w_o (mft MX6_link 20) f = f (.aload_n 0, 21, 0, 0, 0, 0, 0)) ∧
  (∀ f : mE → Prop, w_o (mft MX6_link 21) f = f (.getfield 43, 24, 6, 5, 0, 0, 0)) ∧
  (∀ f : mE → Prop, w_o (mft MX6_link 24) f = f (.iload_n 3, 25, 3, 0, 0, 0, 0)) ∧
  (∀ f : mE → Prop, w_o (mft MX6_link 25) f = f (.invokevirtual 141, 28, 64, 1, 5, 0, 0)) ∧
  (∀ f : mE → Prop, w_o (mft MX6_link 28) f = f (.ifCond .eq 8, 31, 36, 0, 0, 0, 0)) ∧
  (∀ f : mE → Prop, w_o (mft MX6_link 31) f = f (.iload_n 2, 32, 2, 0, 0, 0, 0)) ∧
  (∀ f : mE → Prop, w_o (mft MX6_link 32) f = f (.iload_n 3, 33, 3, 0, 0, 0, 0)) ∧
  (∀ f : mE → Prop, w_o (mft MX6_link 33) f = f (.if_icmp .ne 7, 36, 40, 0, 0, 0, 0)) ∧
  (∀ f : mE → Prop, w_o (mft MX6_link 36) f = f (.sipush (-1000), 39, 0, 0, 0, (-1000), 0)) ∧
  (∀ f : mE → Prop, w_o (mft MX6_link 39) f = f (.ireturn, 40, 0, 0, 0, 0, 0)) ∧
  (∀ f : mE → Prop, w_o (mft MX6_link 40) f = f (.aload_n 0, 41, 0, 0, 0, 0, 0)) ∧
  (∀ f : mE → Prop, w_o (mft MX6_link 41) f = f (.getfield 43, 44, 6, 5, 0, 0, 0)) ∧
  (∀ f : mE → Prop, w_o (mft MX6_link 44) f = f (.iload_n 2, 45, 2, 0, 0, 0, 0)) ∧
  (∀ f : mE → Prop, w_o (mft MX6_link 45) f = f (.iload_n 3, 46, 3, 0, 0, 0, 0)) ∧
  (∀ f : mE → Prop, w_o (mft MX6_link 46) f = f (.invokevirtual 163, 49, 71, 2, 5, 0, 0)) ∧
  (∀ f : mE → Prop, w_o (mft MX6_link 49) f = f (.ireturn, 50, 0, 0, 0, 0, 0)) := ⟨fun _ => rfl, fun _ => rfl, fun _ => rfl, fun _ => rfl, fun _ => rfl, fun _ => rfl, fun _ => rfl, fun _ => rfl, fun _ => rfl, fun _ => rfl, fun _ => rfl, fun _ => rfl, fun _ => rfl, fun _ => rfl, fun _ => rfl, fun _ => rfl, fun _ => rfl, fun _ => rfl, fun _ => rfl, fun _ => rfl, fun _ => rfl, fun _ => rfl, fun _ => rfl, fun _ => rfl, fun _ => rfl, fun _ => rfl⟩
set_option maxRecDepth 100000 in
theorem gd_X6_link : mGood MX6_link := ⟨by decide +kernel, by decide +kernel, by decide +kernel⟩
set_option maxRecDepth 100000 in
set_option maxHeartbeats 4000000 in
theorem ft_X6_sign : (∀ f : mE → Prop, w_o (mft MX6_sign 0) f = f (.aload_n 0, 1, 0, 0, 0, 0, 0)) ∧
  (∀ f : mE → Prop, w_o (mft MX6_sign 1) f = f (.iload_n 1, 2, 1, 0, 0, 0, 0)) ∧
  (∀ f : mE → Prop, w_o (mft MX6_sign 2) f = f (.iload_n 2, 3, 2, 0, 0, 0, 0)) ∧
  (∀ f : mE → Prop, w_o (mft MX6_sign 3) f = f (.invokevirtual 166, 6, 103, 2, 6, 0, 0)) ∧
  (∀ f : mE → Prop, w_o (mft MX6_sign 6) f = f (.ifCond .ne 5, 9, 11, 0, 0, 0, 0)) ∧
  (∀ f : mE → Prop, w_o (mft MX6_sign 9) f = f (.iconst (-1), 10, 0, 0, 0, (-1), 0)) ∧
  (∀ f : mE → Prop, w_o (mft MX6_sign 10) f = f (.ireturn, 11, 0, 0, 0, 0, 0)) ∧
  (∀ f : mE → Prop, w_o (mft MX6_sign 11) f = f (.aload_n 0, 12, 0, 0, 0, 0, 0)) ∧
  (∀ f : mE → Prop, w_o (mft MX6_sign 12) f = f (.iload_n 1, 13, 1, 0, 0, 0, 0)) ∧
  (∀ f : mE → Prop, w_o (mft MX6_sign 13) f = f (.invokevirtual 125, 16, 108, 1, 6, 0, 0)) ∧
  (∀ f : mE → Prop, w_o (mft MX6_sign 16) f = f (.iload_n 2, 17, 2, 0, 0, 0, 0)) ∧
  (∀ f : mE → Prop, w_o (mft MX6_sign 17) f = f (.invokevirtual 169, 20, 68, 1, 5, 0, 0)) ∧
  (∀ f : mE → Prop, w_o (mft MX6_sign 20) f = f (.ifCond .eq 7, 23, 27, 0, 0, 0, 0)) ∧
  (∀ f : mE → Prop, w_o (mft MX6_sign 23) f = f (.iconst 1, 24, 0, 0, 0, (1), 0)) ∧
  (∀ f : mE → Prop, w_o (mft MX6_sign 24) f = f (.goto 4, 27, 28, 0, 0, 0, 0)) ∧
  (∀ f : mE → Prop, w_o (mft MX6_sign 27) f = f (.iconst 0, 28, 0, 0, 0, (0), 0)) ∧
  (∀ f : mE → Prop, w_o (mft MX6_sign 28) f = f (.ireturn, 29, 0, 0, 0, 0, 0)) := ⟨fun _ => rfl, fun _ => rfl, fun _ => rfl, fun _ => rfl, fun _ => rfl, fun _ => rfl, fun _ => rfl, fun _ => rfl, fun _ => rfl, fun _ => rfl, fun _ => rfl, fun _ => rfl, fun _ => rfl, fun _ => rfl, fun _ => rfl, fun _ => rfl, fun _ => rfl⟩
set_option maxRecDepth 100000 in
theorem gd_X6_sign : mGood MX6_sign := ⟨by decide +kernel, by decide +kernel, by decide +kernel⟩
set_option maxRecDepth 100000 in
set_option maxHeartbeats 4000000 in
theorem ft_X6_degree : (∀ f : mE → Prop, w_o (mft MX6_degree 0) f = f (.aload_n 0, 1, 0, 0, 0, 0, 0)) ∧
  (∀ f : mE → Prop, w_o (mft MX6_degree 1) f = f (.iload_n 1, 2, 1, 0, 0, 0, 0)) ∧
  (∀ f : mE → Prop, w_o (mft MX6_degree 2) f = f (.iload_n 2, 3, 2, 0, 0, 0, 0)) ∧
  (∀ f : mE → Prop, w_o (mft MX6_degree 3) f = f (.invokevirtual 166, 6, 103, 2, 6, 0, 0)) ∧
  (∀ f : mE → Prop, w_o (mft MX6_degree 6) f = f (.ifCond .ne 7, 9, 13, 0, 0, 0, 0)) ∧
  (∀ f : mE → Prop, w_o (mft MX6_degree 9) f = f (.sipush (-1000), 12, 0, 0, 0, (-1000), 0)) ∧
  (∀ f : mE → Prop, w_o (mft MX6_degree 12) f = f (.ireturn, 13, 0, 0, 0, 0, 0)) ∧
  (∀ f : mE → Prop, w_o (mft MX6_degree 13) f = f (.aload_n 0, 14, 0, 0, 0, 0, 0)) ∧
  (∀ f : mE → Prop, w_o (mft MX6_degree 14) f = f (.iload_n 1, 15, 1, 0, 0, 0, 0)) ∧
  (∀ f : mE → Prop, w_o (mft MX6_degree 15) f = f (.invokevirtual 125, 18, 108, 1, 6, 0, 0)) ∧
  (∀ f : mE → Prop, w_o (mft MX6_degree 18) f = f (.getfield 129, 21, 5, 9, 0, 0, 0)) ∧
  (∀ f : mE → Prop, w_o (mft MX6_degree 21) f = f (.iconst 1, 22, 0, 0, 0, (1), 0)) ∧
  (∀ f : mE → Prop, w_o (mft MX6_degree 22) f = f (.if_icmp .eq 7, 25, 29, 0, 0, 0, 0)) ∧
  (∀ f : mE → Prop, w_o (mft MX6_degree 25) f = f (.sipush (-1002), 28, 0, 0, 0, (-1002), 0)) ∧
  (∀ f : mE → Prop, w_o (mft MX6_degree 28) f = f (.ireturn, 29, 0, 0, 0, 0, 0)) ∧
  (∀ f : mE → Prop, w_o (mft MX6_degree 29) f = f (.aload_n 0, 30, 0, 0, 0, 0, 0)) ∧
  (∀ f : mE → Prop, w_o (mft MX6_degree 30) f = f (.getfield 43, 33, 6, 5, 0, 0, 0)) ∧
  (∀ f : mE → Prop, w_o (mft MX6_degree 33) f = f (.iload_n 2, 34, 2, 0, 0, 0, 0)) ∧
  (∀ f : mE → Prop, w_o (mft MX6_degree 34) f = f (.invokevirtual 172, 37, 75, 1, 5, 0, 0)) ∧
  (∀ f : mE → Prop, w_o (mft MX6_degree 37) f = f (.ireturn, 38, 0, 0, 0, 0, 0)) := ⟨fun _ => rfl, fun _ => rfl, fun _ => rfl, fun _ => rfl, fun _ => rfl, fun _ => rfl, fun _ => rfl, fun _ => rfl, fun _ => rfl, fun _ => rfl, fun _ => rfl, fun _ => rfl, fun _ => rfl, fun _ => rfl, fun _ => rfl, fun _ => rfl, fun _ => rfl, fun _ => rfl, fun _ => rfl, fun _ => rfl⟩
set_option maxRecDepth 100000 in
theorem gd_X6_degree : mGood MX6_degree := ⟨by decide +kernel, by decide +kernel, by decide +kernel⟩
set_option maxRecDepth 100000 in
set_option maxHeartbeats 4000000 in
theorem ft_X6_rulings : (∀ f : mE → Prop, w_o (mft MX6_rulings 0) f = f (.aload_n 0, 1, 0, 0, 0, 0, 0)) ∧
  (∀ f : mE → Prop, w_o (mft MX6_rulings 1) f = f (.iload_n 1, 2, 1, 0, 0, 0, 0)) ∧
  (∀ f : mE → Prop, w_o (mft MX6_rulings 2) f = f (.invokevirtual 98, 5, 101, 1, 6, 0, 0)) ∧
  (∀ f : mE → Prop, w_o (mft MX6_rulings 5) f = f (.ifCond .eq 15, 8, 20, 0, 0, 0, 0)) ∧
  (∀ f : mE → Prop, w_o (mft MX6_rulings 8) f = f (.iload_n 2, 9, 2, 0, 0, 0, 0)) ∧
  (∀ f : mE → Prop, w_o (mft MX6_rulings 9) f = f (.invokestatic 175, 12, 106, 1, 6, 0, 0)) ∧
  (∀ f : mE → Prop, w_o (mft MX6_rulings 12) f = f (.ifCond .eq 8, 15, 20, 0, 0, 0, 0)) ∧
  (∀ f : mE → Prop, w_o (mft MX6_rulings 15) f = f (.iload_n 3, 16, 3, 0, 0, 0, 0)) ∧
  (∀ f : mE → Prop, w_o (mft MX6_rulings 16) f = f (.iconst (-1), 17, 0, 0, 0, (-1), 0)) ∧
  (∀ f : mE → Prop, w_o (mft MX6_rulings 17) f = f (.if_icmp .ge 5, 20, 22, 0, 0, 0, 0)) ∧
  (∀ f : mE → Prop, w_o (mft MX6_rulings 20) f = f (.iconst (-1), 21, 0, 0, 0, (-1), 0)) ∧
  (∀ f : mE → Prop, w_o (mft MX6_rulings 21) f = f (.ireturn, 22, 0, 0, 0, 0, 0)) ∧
  (∀ f : mE → Prop, w_o (mft MX6_rulings 22) f = f (.aload_n 0, 23, 0, 0, 0, 0, 0)) ∧
  (∀ f : mE → Prop, w_o (mft MX6_rulings 23) f = f (.iload_n 1, 24, 1, 0, 0, 0, 0)) ∧
  (∀ f : mE → Prop, w_o (mft MX6_rulings 24) f = f (.iload_n 2, 25, 2, 0, 0, 0, 0)) ∧
  (∀ f : mE → Prop, w_o (mft MX6_rulings 25) f = f (.invokevirtual 178, 28, 107, 2, 6, 0, 0)) ∧
  (∀ f : mE → Prop, w_o (mft MX6_rulings 28) f = f (.ifCond .ne 6, 31, 34, 0, 0, 0, 0)) ∧
  (∀ f : mE → Prop, w_o (mft MX6_rulings 31) f = f (.bipush (-2), 33, 0, 0, 0, (-2), 0)) ∧
  (∀ f : mE → Prop, w_o (mft MX6_rulings 33) f = f (.ireturn, 34, 0, 0, 0, 0, 0)) ∧
  (∀ f : mE → Prop, w_o (mft MX6_rulings 34) f = f (.aload_n 0, 35, 0, 0, 0, 0, 0)) ∧
  (∀ f : mE → Prop, w_o (mft MX6_rulings 35) f = f (.getfield 50, 38, 6, 6, 0, 0, 0)) ∧
  (∀ f : mE → Prop, w_o (mft MX6_rulings 38) f = f (.aload_n 0, 39, 0, 0, 0, 0, 0)) ∧
  (∀ f : mE → Prop, w_o (mft MX6_rulings 39) f = f (.getfield 43, 42, 6, 5, 0, 0, 0)) ∧
  (∀ f : mE → Prop, w_o (mft MX6_rulings 42) f = f (.iload_n 2, 43, 2, 0, 0, 0, 0)) ∧
  (∀ f : mE → Prop, w_o (mft MX6_rulings 43) f = f (.invokevirtual 181, 46, 34, 2, 3, 0, 0)) ∧
  (∀ f : mE → Prop, w_o (mft MX6_rulings 46) f = f (.iload_n 3, 47, 3, 0, 0, 0, 0)) ∧
  (∀ f : mE → Prop, w_o (mft MX6_rulings 47) f = f (.iconst (-1), 48, 0, 0, 0, (-1), 0)) ∧
  (∀ f : mE → Prop, w_o (mft MX6_rulings 48) f = f (.if_icmp .ne 13, 51, 61, 0, 0, 0, 0)) ∧
  (∀ f : mE → Prop, w_o (mft MX6_rulings 51) f = f (.aload_n 0, 52, 0, 0, 0, 0, 0)) ∧
  (∀ f : mE → Prop, w_o (mft MX6_rulings 52) f = f (.getfield 50, 55, 6, 6, 0, 0, 0)) ∧
  (∀ f : mE → Prop, w_o (mft MX6_rulings 55) f = f (.getfield 185, 58, 3, 5, 0, 0, 0)) ∧
  (∀ f : mE → Prop, w_o (mft MX6_rulings 58) f = f (.goto 11, 61, 69, 0, 0, 0, 0)) ∧
  (∀ f : mE → Prop, w_o (mft MX6_rulings 61) f = f (.aload_n 0, 62, 0, 0, 0, 0, 0)) ∧
  (∀ f : mE → Prop, w_o (mft MX6_rulings 62) f = f (.getfield 50, 65, 6, 6, 0, 0, 0)) ∧
  (∀ f : mE → Prop, w_o (mft MX6_rulings 65) f = f (.iload_n 3, 66, 3, 0, 0, 0, 0)) ∧
  (∀ f : mE → Prop, w_o (mft MX6_rulings 66) f = f (.invokevirtual 188, 69, 36, 1, 3, 0, 0)) ∧
  (∀ f : mE → Prop, w_o (mft MX6_rulings 69) f = f (.ireturn, 70, 0, 0, 0, 0, 0)) := ⟨fun _ => rfl, fun _ => rfl, fun _ => rfl, fun _ => rfl, fun _ => rfl, fun _ => rfl, fun _ => rfl, fun _ => rfl, fun _ => rfl, fun _ => rfl, fun _ => rfl, fun _ => rfl, fun _ => rfl, fun _ => rfl, fun _ => rfl, fun _ => rfl, fun _ => rfl, fun _ => rfl, fun _ => rfl, fun _ => rfl, fun _ => rfl, fun _ => rfl, fun _ => rfl, fun _ => rfl, fun _ => rfl, fun _ => rfl, fun _ => rfl, fun _ => rfl, fun _ => rfl, fun _ => rfl, fun _ => rfl, fun _ => rfl, fun _ => rfl, fun _ => rfl, fun _ => rfl, fun _ => rfl, fun _ => rfl⟩
set_option maxRecDepth 100000 in
theorem gd_X6_rulings : mGood MX6_rulings := ⟨by decide +kernel, by decide +kernel, by decide +kernel⟩
set_option maxRecDepth 100000 in
set_option maxHeartbeats 4000000 in
theorem ft_X6_first : (∀ f : mE → Prop, w_o (mft MX6_first 0) f = f (.aload_n 0, 1, 0, 0, 0, 0, 0)) ∧
  (∀ f : mE → Prop, w_o (mft MX6_first 1) f = f (.iload_n 1, 2, 1, 0, 0, 0, 0)) ∧
  (∀ f : mE → Prop, w_o (mft MX6_first 2) f = f (.invokevirtual 98, 5, 101, 1, 6, 0, 0)) ∧
  (∀ f : mE → Prop, w_o (mft MX6_first 5) f = f (.ifCond .eq 27, 8, 32, 0, 0, 0, 0)) ∧
  (∀ f : mE → Prop, w_o (mft MX6_first 8) f = f (.iload_n 2, 9, 2, 0, 0, 0, 0)) ∧
  (∀ f : mE → Prop, w_o (mft MX6_first 9) f = f (.invokestatic 175, 12, 106, 1, 6, 0, 0)) ∧
  (∀ f : mE → Prop, w_o (mft MX6_first 12) f = f (.ifCond .eq 20, 15, 32, 0, 0, 0, 0)) ∧
  (∀ f : mE → Prop, w_o (mft MX6_first 15) f = f (.iload_n 3, 16, 3, 0, 0, 0, 0)) ∧
  (∀ f : mE → Prop, w_o (mft MX6_first 16) f = f (.ifCond .lt 16, 19, 32, 0, 0, 0, 0)) ∧
  (∀ f : mE → Prop, w_o (mft MX6_first 19) f = f (.iload_n 3, 20, 3, 0, 0, 0, 0)) ∧
  (∀ f : mE → Prop, w_o (mft MX6_first 20) f = f (.aload_n 0, 21, 0, 0, 0, 0, 0)) ∧
  (∀ f : mE → Prop, w_o (mft MX6_first 21) f = f (.getfield 24, 24, 6, 2, 0, 0, 0)) ∧
  (∀ f : mE → Prop, w_o (mft MX6_first 24) f = f (.iload_n 1, 25, 1, 0, 0, 0, 0)) ∧
  (∀ f : mE → Prop, w_o (mft MX6_first 25) f = f (.aaload, 26, 4, 0, 0, 0, 0)) ∧
  (∀ f : mE → Prop, w_o (mft MX6_first 26) f = f (.getfield 122, 29, 0, 4, 0, 0, 0)) ∧
  (∀ f : mE → Prop, w_o (mft MX6_first 29) f = f (.if_icmp .lt 5, 32, 34, 0, 0, 0, 0)) ∧
  (∀ f : mE → Prop, w_o (mft MX6_first 32) f = f (.iconst (-1), 33, 0, 0, 0, (-1), 0)) ∧
  (∀ f : mE → Prop, w_o (mft MX6_first 33) f = f (.ireturn, 34, 0, 0, 0, 0, 0)) ∧
  (∀ f : mE → Prop, w_o (mft MX6_first 34) f = f (.aload_n 0, 35, 0, 0, 0, 0, 0)) ∧
  (∀ f : mE → Prop, w_o (mft MX6_first 35) f = f (.iload_n 1, 36, 1, 0, 0, 0, 0)) ∧
  (∀ f : mE → Prop, w_o (mft MX6_first 36) f = f (.iload_n 2, 37, 2, 0, 0, 0, 0)) ∧
  (∀ f : mE → Prop, w_o (mft MX6_first 37) f = f (.invokevirtual 178, 40, 107, 2, 6, 0, 0)) ∧
  (∀ f : mE → Prop, w_o (mft MX6_first 40) f = f (.ifCond .ne 6, 43, 46, 0, 0, 0, 0)) ∧
  (∀ f : mE → Prop, w_o (mft MX6_first 43) f = f (.bipush (-2), 45, 0, 0, 0, (-2), 0)) ∧
  (∀ f : mE → Prop, w_o (mft MX6_first 45) f = f (.ireturn, 46, 0, 0, 0, 0, 0)) ∧
  (∀ f : mE → Prop, w_o (mft MX6_first 46) f = f (.aload_n 0, 47, 0, 0, 0, 0, 0)) ∧
  (∀ f : mE → Prop, w_o (mft MX6_first 47) f = f (.getfield 50, 50, 6, 6, 0, 0, 0)) ∧
  (∀ f : mE → Prop, w_o (mft MX6_first 50) f = f (.aload_n 0, 51, 0, 0, 0, 0, 0)) ∧
  (∀ f : mE → Prop, w_o (mft MX6_first 51) f = f (.getfield 43, 54, 6, 5, 0, 0, 0)) ∧
  (∀ f : mE → Prop, w_o (mft MX6_first 54) f = f (.iload_n 2, 55, 2, 0, 0, 0, 0)) ∧
  (∀ f : mE → Prop, w_o (mft MX6_first 55) f = f (.invokevirtual 191, 58, 35, 2, 3, 0, 0)) ∧
  (∀ f : mE → Prop, w_o (mft MX6_first 58) f = f (.aload_n 0, 59, 0, 0, 0, 0, 0)) ∧
  (∀ f : mE → Prop, w_o (mft MX6_first 59) f = f (.getfield 50, 62, 6, 6, 0, 0, 0)) ∧
  (∀ f : mE → Prop, w_o (mft MX6_first 62) f = f (.getfield 185, 65, 3, 5, 0, 0, 0)) ∧
  (∀ f : mE → Prop, w_o (mft MX6_first 65) f = f (.ifCond .ne 6, 68, 71, 0, 0, 0, 0)) ∧
  (∀ f : mE → Prop, w_o (mft MX6_first 68) f = f (.bipush (-4), 70, 0, 0, 0, (-4), 0)) ∧
  (∀ f : mE → Prop, w_o (mft MX6_first 70) f = f (.ireturn, 71, 0, 0, 0, 0, 0)) ∧
  (∀ f : mE → Prop, w_o (mft MX6_first 71) f = f (.aload_n 0, 72, 0, 0, 0, 0, 0)) ∧
  (∀ f : mE → Prop, w_o (mft MX6_first 72) f = f (.getfield 50, 75, 6, 6, 0, 0, 0)) ∧
  (∀ f : mE → Prop, w_o (mft MX6_first 75) f = f (.getfield 194, 78, 3, 6, 0, 0, 0)) ∧
  (∀ f : mE → Prop, w_o (mft MX6_first 78) f = f (.iload_n 3, 79, 3, 0, 0, 0, 0)) ∧
  (∀ f : mE → Prop, w_o (mft MX6_first 79) f = f (.ishr, 80, 0, 0, 0, 0, 0)) ∧
  (∀ f : mE → Prop, w_o (mft MX6_first 80) f = f (.iconst 1, 81, 0, 0, 0, (1), 0)) ∧
  (∀ f : mE → Prop, w_o (mft MX6_first 81) f = f (.iand, 82, 0, 0, 0, 0, 0)) ∧
  (∀ f : mE → Prop, w_o (mft MX6_first 82) f = f (.ireturn, 83, 0, 0, 0, 0, 0)) := ⟨fun _ => rfl, fun _ => rfl, fun _ => rfl, fun _ => rfl, fun _ => rfl, fun _ => rfl, fun _ => rfl, fun _ => rfl, fun _ => rfl, fun _ => rfl, fun _ => rfl, fun _ => rfl, fun _ => rfl, fun _ => rfl, fun _ => rfl, fun _ => rfl, fun _ => rfl, fun _ => rfl, fun _ => rfl, fun _ => rfl, fun _ => rfl, fun _ => rfl, fun _ => rfl, fun _ => rfl, fun _ => rfl, fun _ => rfl, fun _ => rfl, fun _ => rfl, fun _ => rfl, fun _ => rfl, fun _ => rfl, fun _ => rfl, fun _ => rfl, fun _ => rfl, fun _ => rfl, fun _ => rfl, fun _ => rfl, fun _ => rfl, fun _ => rfl, fun _ => rfl, fun _ => rfl, fun _ => rfl, fun _ => rfl, fun _ => rfl, fun _ => rfl⟩
set_option maxRecDepth 100000 in
theorem gd_X6_first : mGood MX6_first := ⟨by decide +kernel, by decide +kernel, by decide +kernel⟩
set_option maxRecDepth 100000 in
set_option maxHeartbeats 4000000 in
theorem ft_X6_move : (∀ f : mE → Prop, w_o (mft MX6_move 0) f = f (.aload_n 0, 1, 0, 0, 0, 0, 0)) ∧
  (∀ f : mE → Prop, w_o (mft MX6_move 1) f = f (.iload_n 1, 2, 1, 0, 0, 0, 0)) ∧
  (∀ f : mE → Prop, w_o (mft MX6_move 2) f = f (.iload_n 3, 3, 3, 0, 0, 0, 0)) ∧
  (∀ f : mE → Prop, w_o (mft MX6_move 3) f = f (.invokevirtual 105, 6, 102, 2, 6, 0, 0)) ∧
  (∀ f : mE → Prop, w_o (mft MX6_move 6) f = f (.ifCond .eq 12, 9, 18, 0, 0, 0, 0)) ∧
  (∀ f : mE → Prop, w_o (mft MX6_move 9) f = f (.iload_n 2, 10, 2, 0, 0, 0, 0)) ∧
  (∀ f : mE → Prop, w_o (mft MX6_move 10) f = f (.ifCond .lt 8, 13, 18, 0, 0, 0, 0)) ∧
  (∀ f : mE → Prop, w_o (mft MX6_move 13) f = f (.iload_n 2, 14, 2, 0, 0, 0, 0)) ∧
  (∀ f : mE → Prop, w_o (mft MX6_move 14) f = f (.iconst 4, 15, 0, 0, 0, (4), 0)) ∧
  (∀ f : mE → Prop, w_o (mft MX6_move 15) f = f (.if_icmp .le 5, 18, 20, 0, 0, 0, 0)) ∧
  (∀ f : mE → Prop, w_o (mft MX6_move 18) f = f (.iconst (-1), 19, 0, 0, 0, (-1), 0)) ∧
  (∀ f : mE → Prop, w_o (mft MX6_move 19) f = f (.ireturn, 20, 0, 0, 0, 0, 0)) ∧
  (∀ f : mE → Prop, w_o (mft MX6_move 20) f = f (.aload_n 0, 21, 0, 0, 0, 0, 0)) ∧
  (∀ f : mE → Prop, w_o (mft MX6_move 21) f = f (.getfield 36, 24, 6, 4, 0, 0, 0)) ∧
  (∀ f : mE → Prop, w_o (mft MX6_move 24) f = f (.aload_n 0, 25, 0, 0, 0, 0, 0)) ∧
  (∀ f : mE → Prop, w_o (mft MX6_move 25) f = f (.getfield 24, 28, 6, 2, 0, 0, 0)) ∧
  (∀ f : mE → Prop, w_o (mft MX6_move 28) f = f (.iload_n 1, 29, 1, 0, 0, 0, 0)) ∧
  (∀ f : mE → Prop, w_o (mft MX6_move 29) f = f (.aaload, 30, 4, 0, 0, 0, 0)) ∧
  (∀ f : mE → Prop, w_o (mft MX6_move 30) f = f (.iload_n 2, 31, 2, 0, 0, 0, 0)) ∧
  (∀ f : mE → Prop, w_o (mft MX6_move 31) f = f (.iload_n 3, 32, 3, 0, 0, 0, 0)) ∧
  (∀ f : mE → Prop, w_o (mft MX6_move 32) f = f (.invokevirtual 197, 35, 16, 3, 1, 0, 0)) ∧
  (∀ f : mE → Prop, w_o (mft MX6_move 35) f = f (.ifCond .eq 12, 38, 47, 0, 0, 0, 0)) ∧
  (∀ f : mE → Prop, w_o (mft MX6_move 38) f = f (.aload_n 0, 39, 0, 0, 0, 0, 0)) ∧
  (∀ f : mE → Prop, w_o (mft MX6_move 39) f = f (.iload_n 1, 40, 1, 0, 0, 0, 0)) ∧
  (∀ f : mE → Prop, w_o (mft MX6_move 40) f = f (.iload_n 3, 41, 3, 0, 0, 0, 0)) ∧
  (∀ f : mE → Prop, w_o (mft MX6_move 41) f = f (.invokevirtual 201, 44, 110, 2, 6, 0, 0)) ∧
  (∀ f : mE → Prop, w_o (mft MX6_move 44) f = f (.goto 5, 47, 49, 0, 0, 0, 0)) ∧
  (∀ f : mE → Prop, w_o (mft MX6_move 47) f = f (.bipush (-2), 49, 0, 0, 0, (-2), 0)) ∧
  (∀ f : mE → Prop, w_o (mft MX6_move 49) f = f (.ireturn, 50, 0, 0, 0, 0, 0)) := ⟨fun _ => rfl, fun _ => rfl, fun _ => rfl, fun _ => rfl, fun _ => rfl, fun _ => rfl, fun _ => rfl, fun _ => rfl, fun _ => rfl, fun _ => rfl, fun _ => rfl, fun _ => rfl, fun _ => rfl, fun _ => rfl, fun _ => rfl, fun _ => rfl, fun _ => rfl, fun _ => rfl, fun _ => rfl, fun _ => rfl, fun _ => rfl, fun _ => rfl, fun _ => rfl, fun _ => rfl, fun _ => rfl, fun _ => rfl, fun _ => rfl, fun _ => rfl, fun _ => rfl⟩
set_option maxRecDepth 100000 in
theorem gd_X6_move : mGood MX6_move := ⟨by decide +kernel, by decide +kernel, by decide +kernel⟩
set_option maxRecDepth 100000 in
set_option maxHeartbeats 4000000 in
theorem ft_X6_add : (∀ f : mE → Prop, w_o (mft MX6_add 0) f = f (.aload_n 0, 1, 0, 0, 0, 0, 0)) ∧
  (∀ f : mE → Prop, w_o (mft MX6_add 1) f = f (.iload_n 1, 2, 1, 0, 0, 0, 0)) ∧
  (∀ f : mE → Prop, w_o (mft MX6_add 2) f = f (.invokevirtual 98, 5, 101, 1, 6, 0, 0)) ∧
  (∀ f : mE → Prop, w_o (mft MX6_add 5) f = f (.ifCond .eq 29, 8, 34, 0, 0, 0, 0)) ∧
  (∀ f : mE → Prop, w_o (mft MX6_add 8) f = f (.iload_n 2, 9, 2, 0, 0, 0, 0)) ∧
  (∀ f : mE → Prop, w_o (mft MX6_add 9) f = f (.ifCond .lt 25, 12, 34, 0, 0, 0, 0)) ∧
  (∀ f : mE → Prop, w_o (mft MX6_add 12) f = f (.iload_n 2, 13, 2, 0, 0, 0, 0)) ∧
  (∀ f : mE → Prop, w_o (mft MX6_add 13) f = f (.iconst 3, 14, 0, 0, 0, (3), 0)) ∧
  (∀ f : mE → Prop, w_o (mft MX6_add 14) f = f (.if_icmp .gt 20, 17, 34, 0, 0, 0, 0)) ∧
  (∀ f : mE → Prop, w_o (mft MX6_add 17) f = f (.iload_n 3, 18, 3, 0, 0, 0, 0)) ∧
  (∀ f : mE → Prop, w_o (mft MX6_add 18) f = f (.ifCond .lt 16, 21, 34, 0, 0, 0, 0)) ∧
  (∀ f : mE → Prop, w_o (mft MX6_add 21) f = f (.iload_n 3, 22, 3, 0, 0, 0, 0)) ∧
  (∀ f : mE → Prop, w_o (mft MX6_add 22) f = f (.aload_n 0, 23, 0, 0, 0, 0, 0)) ∧
  (∀ f : mE → Prop, w_o (mft MX6_add 23) f = f (.getfield 24, 26, 6, 2, 0, 0, 0)) ∧
  (∀ f : mE → Prop, w_o (mft MX6_add 26) f = f (.iload_n 1, 27, 1, 0, 0, 0, 0)) ∧
  (∀ f : mE → Prop, w_o (mft MX6_add 27) f = f (.aaload, 28, 4, 0, 0, 0, 0)) ∧
  (∀ f : mE → Prop, w_o (mft MX6_add 28) f = f (.getfield 119, 31, 0, 3, 0, 0, 0)) ∧
  (∀ f : mE → Prop, w_o (mft MX6_add 31) f = f (.if_icmp .le 5, 34, 36, 0, 0, 0, 0)) ∧
  (∀ f : mE → Prop, w_o (mft MX6_add 34) f = f (.iconst (-1), 35, 0, 0, 0, (-1), 0)) ∧
  (∀ f : mE → Prop, w_o (mft MX6_add 35) f = f (.ireturn, 36, 0, 0, 0, 0, 0)) ∧
  (∀ f : mE → Prop, w_o (mft MX6_add 36) f = f (.iload 4, 38, 4, 0, 0, 0, 0)) ∧
  (∀ f : mE → Prop, w_o (mft MX6_add 38) f = f (.ifCond .lt 19, 41, 57, 0, 0, 0, 0)) ∧
  (∀ f : mE → Prop, w_o (mft MX6_add 41) f = f (.iload 4, 43, 4, 0, 0, 0, 0)) ∧
  (∀ f : mE → Prop, w_o (mft MX6_add 43) f = f (.aload_n 0, 44, 0, 0, 0, 0, 0)) ∧
  (∀ f : mE → Prop, w_o (mft MX6_add 44) f = f (.getfield 24, 47, 6, 2, 0, 0, 0)) ∧
  (∀ f : mE → Prop, w_o (mft MX6_add 47) f = f (.iload_n 1, 48, 1, 0, 0, 0, 0)) ∧
  (∀ f : mE → Prop, w_o (mft MX6_add 48) f = f (.aaload, 49, 4, 0, 0, 0, 0)) ∧
  (∀ f : mE → Prop, w_o (mft MX6_add 49) f = f (.getfield 116, 52, 0, 2, 0, 0, 0)) ∧
  (∀ f : mE → Prop, w_o (mft MX6_add 52) f = f (.iload_n 3, 53, 3, 0, 0, 0, 0)) ∧
  (∀ f : mE → Prop, w_o (mft MX6_add 53) f = f (.iaload, 54, 0, 0, 0, 0, 0)) ∧
  (∀ f : mE → Prop, w_o (mft MX6_add 54) f = f (.if_icmp .lt 5, 57, 59, 0, 0, 0, 0)) ∧
  (∀ f : mE → Prop, w_o (mft MX6_add 57) f = f (.iconst (-1), 58, 0, 0, 0, (-1), 0)) ∧
  (∀ f : mE → Prop, w_o (mft MX6_add 58) f = f (.ireturn, 59, 0, 0, 0, 0, 0)) ∧
  (∀ f : mE → Prop, w_o (mft MX6_add 59) f = f (.aload_n 0, 60, 0, 0, 0, 0, 0)) ∧
  (∀ f : mE → Prop, w_o (mft MX6_add 60) f = f (.getfield 36, 63, 6, 4, 0, 0, 0)) ∧
  (∀ f : mE → Prop, w_o (mft MX6_add 63) f = f (.iload_n 2, 64, 2, 0, 0, 0, 0)) ∧
  (∀ f : mE → Prop, w_o (mft MX6_add 64) f = f (.iload 4, 66, 4, 0, 0, 0, 0)) ∧
  (∀ f : mE → Prop, w_o (mft MX6_add 66) f = f (.invokevirtual 204, 69, 24, 2, 1, 0, 0)) ∧
  (∀ f : mE → Prop, w_o (mft MX6_add 69) f = f (.aload_n 0, 70, 0, 0, 0, 0, 0)) ∧
  (∀ f : mE → Prop, w_o (mft MX6_add 70) f = f (.iload_n 1, 71, 1, 0, 0, 0, 0)) ∧
  (∀ f : mE → Prop, w_o (mft MX6_add 71) f = f (.iload_n 3, 72, 3, 0, 0, 0, 0)) ∧
  (∀ f : mE → Prop, w_o (mft MX6_add 72) f = f (.invokevirtual 201, 75, 110, 2, 6, 0, 0)) ∧
  (∀ f : mE → Prop, w_o (mft MX6_add 75) f = f (.ireturn, 76, 0, 0, 0, 0, 0)) := ⟨fun _ => rfl, fun _ => rfl, fun _ => rfl, fun _ => rfl, fun _ => rfl, fun _ => rfl, fun _ => rfl, fun _ => rfl, fun _ => rfl, fun _ => rfl, fun _ => rfl, fun _ => rfl, fun _ => rfl, fun _ => rfl, fun _ => rfl, fun _ => rfl, fun _ => rfl, fun _ => rfl, fun _ => rfl, fun _ => rfl, fun _ => rfl, fun _ => rfl, fun _ => rfl, fun _ => rfl, fun _ => rfl, fun _ => rfl, fun _ => rfl, fun _ => rfl, fun _ => rfl, fun _ => rfl, fun _ => rfl, fun _ => rfl, fun _ => rfl, fun _ => rfl, fun _ => rfl, fun _ => rfl, fun _ => rfl, fun _ => rfl, fun _ => rfl, fun _ => rfl, fun _ => rfl, fun _ => rfl, fun _ => rfl⟩
set_option maxRecDepth 100000 in
theorem gd_X6_add : mGood MX6_add := ⟨by decide +kernel, by decide +kernel, by decide +kernel⟩
set_option maxRecDepth 100000 in
set_option maxHeartbeats 4000000 in
theorem ft_X6_push : (∀ f : mE → Prop, w_o (mft MX6_push 0) f = f (.aload_n 0, 1, 0, 0, 0, 0, 0)) ∧
  (∀ f : mE → Prop, w_o (mft MX6_push 1) f = f (.iload_n 1, 2, 1, 0, 0, 0, 0)) ∧
  (∀ f : mE → Prop, w_o (mft MX6_push 2) f = f (.iload_n 3, 3, 3, 0, 0, 0, 0)) ∧
  (∀ f : mE → Prop, w_o (mft MX6_push 3) f = f (.invokevirtual 105, 6, 102, 2, 6, 0, 0)) ∧
  (∀ f : mE → Prop, w_o (mft MX6_push 6) f = f (.ifCond .eq 12, 9, 18, 0, 0, 0, 0)) ∧
  (∀ f : mE → Prop, w_o (mft MX6_push 9) f = f (.iload_n 2, 10, 2, 0, 0, 0, 0)) ∧
  (∀ f : mE → Prop, w_o (mft MX6_push 10) f = f (.ifCond .lt 8, 13, 18, 0, 0, 0, 0)) ∧
  (∀ f : mE → Prop, w_o (mft MX6_push 13) f = f (.iload_n 2, 14, 2, 0, 0, 0, 0)) ∧
  (∀ f : mE → Prop, w_o (mft MX6_push 14) f = f (.iconst 1, 15, 0, 0, 0, (1), 0)) ∧
  (∀ f : mE → Prop, w_o (mft MX6_push 15) f = f (.if_icmp .le 5, 18, 20, 0, 0, 0, 0)) ∧
  (∀ f : mE → Prop, w_o (mft MX6_push 18) f = f (.iconst (-1), 19, 0, 0, 0, (-1), 0)) ∧
  (∀ f : mE → Prop, w_o (mft MX6_push 19) f = f (.ireturn, 20, 0, 0, 0, 0, 0)) ∧
  (∀ f : mE → Prop, w_o (mft MX6_push 20) f = f (.aload_n 0, 21, 0, 0, 0, 0, 0)) ∧
  (∀ f : mE → Prop, w_o (mft MX6_push 21) f = f (.getfield 36, 24, 6, 4, 0, 0, 0)) ∧
  (∀ f : mE → Prop, w_o (mft MX6_push 24) f = f (.aload_n 0, 25, 0, 0, 0, 0, 0)) ∧
  (∀ f : mE → Prop, w_o (mft MX6_push 25) f = f (.getfield 24, 28, 6, 2, 0, 0, 0)) ∧
  (∀ f : mE → Prop, w_o (mft MX6_push 28) f = f (.iload_n 1, 29, 1, 0, 0, 0, 0)) ∧
  (∀ f : mE → Prop, w_o (mft MX6_push 29) f = f (.aaload, 30, 4, 0, 0, 0, 0)) ∧
  (∀ f : mE → Prop, w_o (mft MX6_push 30) f = f (.iload_n 2, 31, 2, 0, 0, 0, 0)) ∧
  (∀ f : mE → Prop, w_o (mft MX6_push 31) f = f (.iload_n 3, 32, 3, 0, 0, 0, 0)) ∧
  (∀ f : mE → Prop, w_o (mft MX6_push 32) f = f (.invokevirtual 207, 35, 25, 3, 1, 0, 0)) ∧
  (∀ f : mE → Prop, w_o (mft MX6_push 35) f = f (.ifCond .eq 12, 38, 47, 0, 0, 0, 0)) ∧
  (∀ f : mE → Prop, w_o (mft MX6_push 38) f = f (.aload_n 0, 39, 0, 0, 0, 0, 0)) ∧
  (∀ f : mE → Prop, w_o (mft MX6_push 39) f = f (.iload_n 1, 40, 1, 0, 0, 0, 0)) ∧
  (∀ f : mE → Prop, w_o (mft MX6_push 40) f = f (.iload_n 3, 41, 3, 0, 0, 0, 0)) ∧
  (∀ f : mE → Prop, w_o (mft MX6_push 41) f = f (.invokevirtual 201, 44, 110, 2, 6, 0, 0)) ∧
  (∀ f : mE → Prop, w_o (mft MX6_push 44) f = f (.goto 5, 47, 49, 0, 0, 0, 0)) ∧
  (∀ f : mE → Prop, w_o (mft MX6_push 47) f = f (.bipush (-2), 49, 0, 0, 0, (-2), 0)) ∧
  (∀ f : mE → Prop, w_o (mft MX6_push 49) f = f (.ireturn, 50, 0, 0, 0, 0, 0)) := ⟨fun _ => rfl, fun _ => rfl, fun _ => rfl, fun _ => rfl, fun _ => rfl, fun _ => rfl, fun _ => rfl, fun _ => rfl, fun _ => rfl, fun _ => rfl, fun _ => rfl, fun _ => rfl, fun _ => rfl, fun _ => rfl, fun _ => rfl, fun _ => rfl, fun _ => rfl, fun _ => rfl, fun _ => rfl, fun _ => rfl, fun _ => rfl, fun _ => rfl, fun _ => rfl, fun _ => rfl, fun _ => rfl, fun _ => rfl, fun _ => rfl, fun _ => rfl, fun _ => rfl⟩
set_option maxRecDepth 100000 in
theorem gd_X6_push : mGood MX6_push := ⟨by decide +kernel, by decide +kernel, by decide +kernel⟩
set_option maxRecDepth 100000 in
set_option maxHeartbeats 4000000 in
theorem ft_X6_join : (∀ f : mE → Prop, w_o (mft MX6_join 0) f = f (.aload_n 0, 1, 0, 0, 0, 0, 0)) ∧
  (∀ f : mE → Prop, w_o (mft MX6_join 1) f = f (.iload_n 1, 2, 1, 0, 0, 0, 0)) ∧
  (∀ f : mE → Prop, w_o (mft MX6_join 2) f = f (.invokevirtual 98, 5, 101, 1, 6, 0, 0)) ∧
  (∀ f : mE → Prop, w_o (mft MX6_join 5) f = f (.ifCond .eq 11, 8, 16, 0, 0, 0, 0)) ∧
  (∀ f : mE → Prop, w_o (mft MX6_join 8) f = f (.aload_n 0, 9, 0, 0, 0, 0, 0)) ∧
  (∀ f : mE → Prop, w_o (mft MX6_join 9) f = f (.iload_n 2, 10, 2, 0, 0, 0, 0)) ∧
  (∀ f : mE → Prop, w_o (mft MX6_join 10) f = f (.invokevirtual 98, 13, 101, 1, 6, 0, 0)) ∧
  (∀ f : mE → Prop, w_o (mft MX6_join 13) f = f (.ifCond .ne 5, 16, 18, 0, 0, 0, 0)) ∧
  (∀ f : mE → Prop, w_o (mft MX6_join 16) f = f (.iconst (-1), 17, 0, 0, 0, (-1), 0)) ∧
  (∀ f : mE → Prop, w_o (mft MX6_join 17) f = f (.ireturn, 18, 0, 0, 0, 0, 0)) ∧
  (∀ f : mE → Prop, w_o (mft MX6_join 18) f = f (.aload_n 0, 19, 0, 0, 0, 0, 0)) ∧
  (∀ f : mE → Prop, w_o (mft MX6_join 19) f = f (.getfield 29, 22, 6, 3, 0, 0, 0)) ∧
  (∀ f : mE → Prop, w_o (mft MX6_join 22) f = f (.invokevirtual 210, 25, 1, 0, 0, 0, 0)) ∧
  (∀ f : mE → Prop, w_o (mft MX6_join 25) f = f (.aload_n 0, 26, 0, 0, 0, 0, 0)) ∧
  (∀ f : mE → Prop, w_o (mft MX6_join 26) f = f (.getfield 29, 29, 6, 3, 0, 0, 0)) ∧
  (∀ f : mE → Prop, w_o (mft MX6_join 29) f = f (.aload_n 0, 30, 0, 0, 0, 0, 0)) ∧
  (∀ f : mE → Prop, w_o (mft MX6_join 30) f = f (.getfield 24, 33, 6, 2, 0, 0, 0)) ∧
  (∀ f : mE → Prop, w_o (mft MX6_join 33) f = f (.iload_n 1, 34, 1, 0, 0, 0, 0)) ∧
  (∀ f : mE → Prop, w_o (mft MX6_join 34) f = f (.aaload, 35, 4, 0, 0, 0, 0)) ∧
  (∀ f : mE → Prop, w_o (mft MX6_join 35) f = f (.iconst 0, 36, 0, 0, 0, (0), 0)) ∧
  (∀ f : mE → Prop, w_o (mft MX6_join 36) f = f (.aload_n 0, 37, 0, 0, 0, 0, 0)) ∧
  (∀ f : mE → Prop, w_o (mft MX6_join 37) f = f (.getfield 24, 40, 6, 2, 0, 0, 0)) ∧
  (∀ f : mE → Prop, w_o (mft MX6_join 40) f = f (.iload_n 1, 41, 1, 0, 0, 0, 0)) ∧
  (∀ f : mE → Prop, w_o (mft MX6_join 41) f = f (.aaload, 42, 4, 0, 0, 0, 0)) ∧
  (∀ f : mE → Prop, w_o (mft MX6_join 42) f = f (.getfield 119, 45, 0, 3, 0, 0, 0)) ∧
  (∀ f : mE → Prop, w_o (mft MX6_join 45) f = f (.iconst 1, 46, 0, 0, 0, (1), 0)) ∧
  (∀ f : mE → Prop, w_o (mft MX6_join 46) f = f (.isub, 47, 0, 0, 0, 0, 0)) ∧
  (∀ f : mE → Prop, w_o (mft MX6_join 47) f = f (.invokevirtual 213, 50, 7, 3, 0, 0, 0)) ∧
  (∀ f : mE → Prop, w_o (mft MX6_join 50) f = f (.ifCond .eq 33, 53, 83, 0, 0, 0, 0)) ∧
  (∀ f : mE → Prop, w_o (mft MX6_join 53) f = f (.aload_n 0, 54, 0, 0, 0, 0, 0)) ∧
  (∀ f : mE → Prop, w_o (mft MX6_join 54) f = f (.getfield 29, 57, 6, 3, 0, 0, 0)) ∧
  (∀ f : mE → Prop, w_o (mft MX6_join 57) f = f (.aload_n 0, 58, 0, 0, 0, 0, 0)) ∧
  (∀ f : mE → Prop, w_o (mft MX6_join 58) f = f (.getfield 24, 61, 6, 2, 0, 0, 0)) ∧
  (∀ f : mE → Prop, w_o (mft MX6_join 61) f = f (.iload_n 2, 62, 2, 0, 0, 0, 0)) ∧
  (∀ f : mE → Prop, w_o (mft MX6_join 62) f = f (.aaload, 63, 4, 0, 0, 0, 0)) ∧
  (∀ f : mE → Prop, w_o (mft MX6_join 63) f = f (.iconst 1, 64, 0, 0, 0, (1), 0)) ∧
  (∀ f : mE → Prop, w_o (mft MX6_join 64) f = f (.aload_n 0, 65, 0, 0, 0, 0, 0)) ∧
  (∀ f : mE → Prop, w_o (mft MX6_join 65) f = f (.getfield 24, 68, 6, 2, 0, 0, 0)) ∧
  (∀ f : mE → Prop, w_o (mft MX6_join 68) f = f (.iload_n 2, 69, 2, 0, 0, 0, 0)) ∧
  (∀ f : mE → Prop, w_o (mft MX6_join 69) f = f (.aaload, 70, 4, 0, 0, 0, 0)) ∧
  (∀ f : mE → Prop, w_o (mft MX6_join 70) f = f (.getfield 119, 73, 0, 3, 0, 0, 0)) ∧
  (∀ f : mE → Prop, w_o (mft MX6_join 73) f = f (.invokevirtual 213, 76, 7, 3, 0, 0, 0)) ∧
  (∀ f : mE → Prop, w_o (mft MX6_join 76) f = f (.ifCond .eq 7, 79, 83, 0, 0, 0, 0)) ∧
  (∀ f : mE → Prop, w_o (mft MX6_join 79) f = f (.iconst 1, 80, 0, 0, 0, (1), 0)) ∧
  (∀ f : mE → Prop, w_o (mft MX6_join 80) f = f (.goto 4, 83, 84, 0, 0, 0, 0)) ∧
  (∀ f : mE → Prop, w_o (mft MX6_join 83) f = f (.iconst 0, 84, 0, 0, 0, (0), 0)) ∧
  (∀ f : mE → Prop, w_o (mft MX6_join 84) f = f (.istore_n 3, 85, 3, 0, 0, 0, 0)) ∧
  (∀ f : mE → Prop, w_o (mft MX6_join 85) f = f (.iload_n 3, 86, 3, 0, 0, 0, 0)) ∧
  (∀ f : mE → Prop, w_o (mft MX6_join 86) f = f (.ifCond .eq 10, 89, 96, 0, 0, 0, 0)) ∧
  (∀ f : mE → Prop, w_o (mft MX6_join 89) f = f (.aload_n 0, 90, 0, 0, 0, 0, 0)) ∧
  (∀ f : mE → Prop, w_o (mft MX6_join 90) f = f (.invokevirtual 73, 93, 109, 0, 6, 0, 0)) ∧
  (∀ f : mE → Prop, w_o (mft MX6_join 93) f = f (.goto 5, 96, 98, 0, 0, 0, 0)) ∧
  (∀ f : mE → Prop, w_o (mft MX6_join 96) f = f (.bipush (-3), 98, 0, 0, 0, (-3), 0)) ∧
  (∀ f : mE → Prop, w_o (mft MX6_join 98) f = f (.ireturn, 99, 0, 0, 0, 0, 0)) := ⟨fun _ => rfl, fun _ => rfl, fun _ => rfl, fun _ => rfl, fun _ => rfl, fun _ => rfl, fun _ => rfl, fun _ => rfl, fun _ => rfl, fun _ => rfl, fun _ => rfl, fun _ => rfl, fun _ => rfl, fun _ => rfl, fun _ => rfl, fun _ => rfl, fun _ => rfl, fun _ => rfl, fun _ => rfl, fun _ => rfl, fun _ => rfl, fun _ => rfl, fun _ => rfl, fun _ => rfl, fun _ => rfl, fun _ => rfl, fun _ => rfl, fun _ => rfl, fun _ => rfl, fun _ => rfl, fun _ => rfl, fun _ => rfl, fun _ => rfl, fun _ => rfl, fun _ => rfl, fun _ => rfl, fun _ => rfl, fun _ => rfl, fun _ => rfl, fun _ => rfl, fun _ => rfl, fun _ => rfl, fun _ => rfl, fun _ => rfl, fun _ => rfl, fun _ => rfl, fun _ => rfl, fun _ => rfl, fun _ => rfl, fun _ => rfl, fun _ => rfl, fun _ => rfl, fun _ => rfl, fun _ => rfl⟩
set_option maxRecDepth 100000 in
theorem gd_X6_join : mGood MX6_join := ⟨by decide +kernel, by decide +kernel, by decide +kernel⟩
set_option maxRecDepth 100000 in
set_option maxHeartbeats 4000000 in
theorem ft_X6_unlike : (∀ f : mE → Prop, w_o (mft MX6_unlike 0) f = f (.aload_n 0, 1, 0, 0, 0, 0, 0)) ∧
  (∀ f : mE → Prop, w_o (mft MX6_unlike 1) f = f (.iload_n 1, 2, 1, 0, 0, 0, 0)) ∧
  (∀ f : mE → Prop, w_o (mft MX6_unlike 2) f = f (.invokevirtual 98, 5, 101, 1, 6, 0, 0)) ∧
  (∀ f : mE → Prop, w_o (mft MX6_unlike 5) f = f (.ifCond .eq 11, 8, 16, 0, 0, 0, 0)) ∧
  (∀ f : mE → Prop, w_o (mft MX6_unlike 8) f = f (.aload_n 0, 9, 0, 0, 0, 0, 0)) ∧
  (∀ f : mE → Prop, w_o (mft MX6_unlike 9) f = f (.iload_n 2, 10, 2, 0, 0, 0, 0)) ∧
  (∀ f : mE → Prop, w_o (mft MX6_unlike 10) f = f (.invokevirtual 98, 13, 101, 1, 6, 0, 0)) ∧
  (∀ f : mE → Prop, w_o (mft MX6_unlike 13) f = f (.ifCond .ne 5, 16, 18, 0, 0, 0, 0)) ∧
  (∀ f : mE → Prop, w_o (mft MX6_unlike 16) f = f (.iconst (-1), 17, 0, 0, 0, (-1), 0)) ∧
  (∀ f : mE → Prop, w_o (mft MX6_unlike 17) f = f (.ireturn, 18, 0, 0, 0, 0, 0)) ∧
  (∀ f : mE → Prop, w_o (mft MX6_unlike 18) f = f (.aload_n 0, 19, 0, 0, 0, 0, 0)) ∧
  (∀ f : mE → Prop, w_o (mft MX6_unlike 19) f = f (.getfield 24, 22, 6, 2, 0, 0, 0)) ∧
  (∀ f : mE → Prop, w_o (mft MX6_unlike 22) f = f (.iload_n 1, 23, 1, 0, 0, 0, 0)) ∧
  (∀ f : mE → Prop, w_o (mft MX6_unlike 23) f = f (.aaload, 24, 4, 0, 0, 0, 0)) ∧
  (∀ f : mE → Prop, w_o (mft MX6_unlike 24) f = f (.aload_n 0, 25, 0, 0, 0, 0, 0)) ∧
  (∀ f : mE → Prop, w_o (mft MX6_unlike 25) f = f (.getfield 24, 28, 6, 2, 0, 0, 0)) ∧
  (∀ f : mE → Prop, w_o (mft MX6_unlike 28) f = f (.iload_n 2, 29, 2, 0, 0, 0, 0)) ∧
  (∀ f : mE → Prop, w_o (mft MX6_unlike 29) f = f (.aaload, 30, 4, 0, 0, 0, 0)) ∧
  (∀ f : mE → Prop, w_o (mft MX6_unlike 30) f = f (.invokevirtual 216, 33, 10, 1, 0, 0, 0)) ∧
  (∀ f : mE → Prop, w_o (mft MX6_unlike 33) f = f (.ireturn, 34, 0, 0, 0, 0, 0)) := ⟨fun _ => rfl, fun _ => rfl, fun _ => rfl, fun _ => rfl, fun _ => rfl, fun _ => rfl, fun _ => rfl, fun _ => rfl, fun _ => rfl, fun _ => rfl, fun _ => rfl, fun _ => rfl, fun _ => rfl, fun _ => rfl, fun _ => rfl, fun _ => rfl, fun _ => rfl, fun _ => rfl, fun _ => rfl, fun _ => rfl⟩
set_option maxRecDepth 100000 in
theorem gd_X6_unlike : mGood MX6_unlike := ⟨by decide +kernel, by decide +kernel, by decide +kernel⟩
set_option maxRecDepth 100000 in
set_option maxHeartbeats 4000000 in
theorem ft_X6_count : (∀ f : mE → Prop, w_o (mft MX6_count 0) f = f (.iload_n 1, 1, 1, 0, 0, 0, 0)) ∧
  (∀ f : mE → Prop, w_o (mft MX6_count 1) f = f (.tableswitch 68 0 2 #[27, 32, 60], 28, 0, 0, 0, 0, 0)) ∧
  (∀ f : mE → Prop, w_o (mft MX6_count 28) f = f (.aload_n 0, 29, 0, 0, 0, 0, 0)) ∧
  (∀ f : mE → Prop, w_o (mft MX6_count 29) f = f (.getfield 54, 32, 6, 7, 0, 0, 0)) ∧
  (∀ f : mE → Prop, w_o (mft MX6_count 32) f = f (.ireturn, 33, 0, 0, 0, 0, 0)) ∧
  (∀ f : mE → Prop, w_o (mft MX6_count 33) f = f (.aload_n 0, 34, 0, 0, 0, 0, 0)) ∧
  (∀ f : mE → Prop, w_o (mft MX6_count 34) f = f (.getfield 18, 37, 6, 1, 0, 0, 0)) ∧
  (∀ f : mE → Prop, w_o (mft MX6_count 37) f = f (.iconst 0, 38, 0, 0, 0, (0), 0)) ∧
  (∀ f : mE → Prop, w_o (mft MX6_count 38) f = f (.aaload, 39, 5, 0, 0, 0, 0)) ∧
  (∀ f : mE → Prop, w_o (mft MX6_count 39) f = f (.getfield 219, 42, 2, 1, 0, 0, 0)) ∧
  (∀ f : mE → Prop, w_o (mft MX6_count 42) f = f (.iconst (-1), 43, 0, 0, 0, (-1), 0)) ∧
  (∀ f : mE → Prop, w_o (mft MX6_count 43) f = f (.if_icmp .ne 8, 46, 51, 0, 0, 0, 0)) ∧
  (∀ f : mE → Prop, w_o (mft MX6_count 46) f = f (.bipush (-4), 48, 0, 0, 0, (-4), 0)) ∧
  (∀ f : mE → Prop, w_o (mft MX6_count 48) f = f (.goto 12, 51, 60, 0, 0, 0, 0)) ∧
  (∀ f : mE → Prop, w_o (mft MX6_count 51) f = f (.aload_n 0, 52, 0, 0, 0, 0, 0)) ∧
  (∀ f : mE → Prop, w_o (mft MX6_count 52) f = f (.getfield 18, 55, 6, 1, 0, 0, 0)) ∧
  (∀ f : mE → Prop, w_o (mft MX6_count 55) f = f (.iconst 0, 56, 0, 0, 0, (0), 0)) ∧
  (∀ f : mE → Prop, w_o (mft MX6_count 56) f = f (.aaload, 57, 5, 0, 0, 0, 0)) ∧
  (∀ f : mE → Prop, w_o (mft MX6_count 57) f = f (.getfield 222, 60, 2, 2, 0, 0, 0)) ∧
  (∀ f : mE → Prop, w_o (mft MX6_count 60) f = f (.ireturn, 61, 0, 0, 0, 0, 0)) ∧
  (∀ f : mE → Prop, w_o (mft MX6_count 61) f = f (.aload_n 0, 62, 0, 0, 0, 0, 0)) ∧
  (∀ f : mE → Prop, w_o (mft MX6_count 62) f = f (.getfield 12, 65, 6, 0, 0, 0, 0)) ∧
  (∀ f : mE → Prop, w_o (mft MX6_count 65) f = f (.getfield 62, 68, 4, 1, 0, 0, 0)) ∧
  (∀ f : mE → Prop, w_o (mft MX6_count 68) f = f (.ireturn, 69, 0, 0, 0, 0, 0)) ∧
  (∀ f : mE → Prop, w_o (mft MX6_count 69) f = f (.iconst (-1), 70, 0, 0, 0, (-1), 0)) ∧
  (∀ f : mE → Prop, w_o (mft MX6_count 70) f = f (.ireturn, 71, 0, 0, 0, 0, 0)) := ⟨fun _ => rfl, fun _ => rfl, fun _ => rfl, fun _ => rfl, fun _ => rfl, fun _ => rfl, fun _ => rfl, fun _ => rfl, fun _ => rfl, fun _ => rfl, fun _ => rfl, fun _ => rfl, fun _ => rfl, fun _ => rfl, fun _ => rfl, fun _ => rfl, fun _ => rfl, fun _ => rfl, fun _ => rfl, fun _ => rfl, fun _ => rfl, fun _ => rfl, fun _ => rfl, fun _ => rfl, fun _ => rfl, fun _ => rfl⟩
set_option maxRecDepth 100000 in
theorem gd_X6_count : mGood MX6_count := ⟨by decide +kernel, by decide +kernel, by decide +kernel⟩
set_option maxRecDepth 100000 in
set_option maxHeartbeats 4000000 in
theorem ft_X6_isFront : (∀ f : mE → Prop, w_o (mft MX6_isFront 0) f = f (.iload_n 1, 1, 1, 0, 0, 0, 0)) ∧
  (∀ f : mE → Prop, w_o (mft MX6_isFront 1) f = f (.ifCond .lt 15, 4, 16, 0, 0, 0, 0)) ∧
  (∀ f : mE → Prop, w_o (mft MX6_isFront 4) f = f (.iload_n 1, 5, 1, 0, 0, 0, 0)) ∧
  (∀ f : mE → Prop, w_o (mft MX6_isFront 5) f = f (.aload_n 0, 6, 0, 0, 0, 0, 0)) ∧
  (∀ f : mE → Prop, w_o (mft MX6_isFront 6) f = f (.getfield 54, 9, 6, 7, 0, 0, 0)) ∧
  (∀ f : mE → Prop, w_o (mft MX6_isFront 9) f = f (.if_icmp .ge 7, 12, 16, 0, 0, 0, 0)) ∧
  (∀ f : mE → Prop, w_o (mft MX6_isFront 12) f = f (.iconst 1, 13, 0, 0, 0, (1), 0)) ∧
  (∀ f : mE → Prop, w_o (mft MX6_isFront 13) f = f (.goto 4, 16, 17, 0, 0, 0, 0)) ∧
  (∀ f : mE → Prop, w_o (mft MX6_isFront 16) f = f (.iconst 0, 17, 0, 0, 0, (0), 0)) ∧
  (∀ f : mE → Prop, w_o (mft MX6_isFront 17) f = f (.ireturn, 18, 0, 0, 1, 0, 0)) := ⟨fun _ => rfl, fun _ => rfl, fun _ => rfl, fun _ => rfl, fun _ => rfl, fun _ => rfl, fun _ => rfl, fun _ => rfl, fun _ => rfl, fun _ => rfl⟩
set_option maxRecDepth 100000 in
theorem gd_X6_isFront : mGood MX6_isFront := ⟨by decide +kernel, by decide +kernel, by decide +kernel⟩
set_option maxRecDepth 100000 in
set_option maxHeartbeats 4000000 in
theorem ft_X6_isEvent : (∀ f : mE → Prop, w_o (mft MX6_isEvent 0) f = f (.aload_n 0, 1, 0, 0, 0, 0, 0)) ∧
  (∀ f : mE → Prop, w_o (mft MX6_isEvent 1) f = f (.iload_n 1, 2, 1, 0, 0, 0, 0)) ∧
  (∀ f : mE → Prop, w_o (mft MX6_isEvent 2) f = f (.invokevirtual 98, 5, 101, 1, 6, 0, 0)) ∧
  (∀ f : mE → Prop, w_o (mft MX6_isEvent 5) f = f (.ifCond .eq 24, 8, 29, 0, 0, 0, 0)) ∧
  (∀ f : mE → Prop, w_o (mft MX6_isEvent 8) f = f (.iload_n 2, 9, 2, 0, 0, 0, 0)) ∧
  (∀ f : mE → Prop, w_o (mft MX6_isEvent 9) f = f (.ifCond .lt 20, 12, 29, 0, 0, 0, 0)) ∧
  (∀ f : mE → Prop, w_o (mft MX6_isEvent 12) f = f (.iload_n 2, 13, 2, 0, 0, 0, 0)) ∧
  (∀ f : mE → Prop, w_o (mft MX6_isEvent 13) f = f (.aload_n 0, 14, 0, 0, 0, 0, 0)) ∧
  (∀ f : mE → Prop, w_o (mft MX6_isEvent 14) f = f (.getfield 24, 17, 6, 2, 0, 0, 0)) ∧
  (∀ f : mE → Prop, w_o (mft MX6_isEvent 17) f = f (.iload_n 1, 18, 1, 0, 0, 0, 0)) ∧
  (∀ f : mE → Prop, w_o (mft MX6_isEvent 18) f = f (.aaload, 19, 4, 0, 0, 0, 0)) ∧
  (∀ f : mE → Prop, w_o (mft MX6_isEvent 19) f = f (.getfield 119, 22, 0, 3, 0, 0, 0)) ∧
  (∀ f : mE → Prop, w_o (mft MX6_isEvent 22) f = f (.if_icmp .ge 7, 25, 29, 0, 0, 0, 0)) ∧
  (∀ f : mE → Prop, w_o (mft MX6_isEvent 25) f = f (.iconst 1, 26, 0, 0, 0, (1), 0)) ∧
  (∀ f : mE → Prop, w_o (mft MX6_isEvent 26) f = f (.goto 4, 29, 30, 0, 0, 0, 0)) ∧
  (∀ f : mE → Prop, w_o (mft MX6_isEvent 29) f = f (.iconst 0, 30, 0, 0, 0, (0), 0)) ∧
  (∀ f : mE → Prop, w_o (mft MX6_isEvent 30) f = f (.ireturn, 31, 0, 0, 1, 0, 0)) := ⟨fun _ => rfl, fun _ => rfl, fun _ => rfl, fun _ => rfl, fun _ => rfl, fun _ => rfl, fun _ => rfl, fun _ => rfl, fun _ => rfl, fun _ => rfl, fun _ => rfl, fun _ => rfl, fun _ => rfl, fun _ => rfl, fun _ => rfl, fun _ => rfl, fun _ => rfl⟩
set_option maxRecDepth 100000 in
theorem gd_X6_isEvent : mGood MX6_isEvent := ⟨by decide +kernel, by decide +kernel, by decide +kernel⟩
set_option maxRecDepth 100000 in
set_option maxHeartbeats 4000000 in
theorem ft_X6_isCross : (∀ f : mE → Prop, w_o (mft MX6_isCross 0) f = f (.aload_n 0, 1, 0, 0, 0, 0, 0)) ∧
  (∀ f : mE → Prop, w_o (mft MX6_isCross 1) f = f (.iload_n 1, 2, 1, 0, 0, 0, 0)) ∧
  (∀ f : mE → Prop, w_o (mft MX6_isCross 2) f = f (.iload_n 2, 3, 2, 0, 0, 0, 0)) ∧
  (∀ f : mE → Prop, w_o (mft MX6_isCross 3) f = f (.invokevirtual 105, 6, 102, 2, 6, 0, 0)) ∧
  (∀ f : mE → Prop, w_o (mft MX6_isCross 6) f = f (.ifCond .eq 22, 9, 28, 0, 0, 0, 0)) ∧
  (∀ f : mE → Prop, w_o (mft MX6_isCross 9) f = f (.aload_n 0, 10, 0, 0, 0, 0, 0)) ∧
  (∀ f : mE → Prop, w_o (mft MX6_isCross 10) f = f (.getfield 24, 13, 6, 2, 0, 0, 0)) ∧
  (∀ f : mE → Prop, w_o (mft MX6_isCross 13) f = f (.iload_n 1, 14, 1, 0, 0, 0, 0)) ∧
  (∀ f : mE → Prop, w_o (mft MX6_isCross 14) f = f (.aaload, 15, 4, 0, 0, 0, 0)) ∧
  (∀ f : mE → Prop, w_o (mft MX6_isCross 15) f = f (.getfield 109, 18, 0, 0, 0, 0, 0)) ∧
  (∀ f : mE → Prop, w_o (mft MX6_isCross 18) f = f (.iload_n 2, 19, 2, 0, 0, 0, 0)) ∧
  (∀ f : mE → Prop, w_o (mft MX6_isCross 19) f = f (.iaload, 20, 0, 0, 0, 0, 0)) ∧
  (∀ f : mE → Prop, w_o (mft MX6_isCross 20) f = f (.iconst 1, 21, 0, 0, 0, (1), 0)) ∧
  (∀ f : mE → Prop, w_o (mft MX6_isCross 21) f = f (.if_icmp .ne 7, 24, 28, 0, 0, 0, 0)) ∧
  (∀ f : mE → Prop, w_o (mft MX6_isCross 24) f = f (.iconst 1, 25, 0, 0, 0, (1), 0)) ∧
  (∀ f : mE → Prop, w_o (mft MX6_isCross 25) f = f (.goto 4, 28, 29, 0, 0, 0, 0)) ∧
  (∀ f : mE → Prop, w_o (mft MX6_isCross 28) f = f (.iconst 0, 29, 0, 0, 0, (0), 0)) ∧
  (∀ f : mE → Prop, w_o (mft MX6_isCross 29) f = f (.ireturn, 30, 0, 0, 1, 0, 0)) := ⟨fun _ => rfl, fun _ => rfl, fun _ => rfl, fun _ => rfl, fun _ => rfl, fun _ => rfl, fun _ => rfl, fun _ => rfl, fun _ => rfl, fun _ => rfl, fun _ => rfl, fun _ => rfl, fun _ => rfl, fun _ => rfl, fun _ => rfl, fun _ => rfl, fun _ => rfl, fun _ => rfl⟩
set_option maxRecDepth 100000 in
theorem gd_X6_isCross : mGood MX6_isCross := ⟨by decide +kernel, by decide +kernel, by decide +kernel⟩
set_option maxRecDepth 100000 in
set_option maxHeartbeats 4000000 in
theorem ft_X6_isSheet : (∀ f : mE → Prop, w_o (mft MX6_isSheet 0) f = f (.iload_n 0, 1, 0, 0, 0, 0, 0)) ∧
  (∀ f : mE → Prop, w_o (mft MX6_isSheet 1) f = f (.ifCond .lt 12, 4, 13, 0, 0, 0, 0)) ∧
  (∀ f : mE → Prop, w_o (mft MX6_isSheet 4) f = f (.iload_n 0, 5, 0, 0, 0, 0, 0)) ∧
  (∀ f : mE → Prop, w_o (mft MX6_isSheet 5) f = f (.iconst 4, 6, 0, 0, 0, (4), 0)) ∧
  (∀ f : mE → Prop, w_o (mft MX6_isSheet 6) f = f (.if_icmp .ge 7, 9, 13, 0, 0, 0, 0)) ∧
  (∀ f : mE → Prop, w_o (mft MX6_isSheet 9) f = f (.iconst 1, 10, 0, 0, 0, (1), 0)) ∧
  (∀ f : mE → Prop, w_o (mft MX6_isSheet 10) f = f (.goto 4, 13, 14, 0, 0, 0, 0)) ∧
  (∀ f : mE → Prop, w_o (mft MX6_isSheet 13) f = f (.iconst 0, 14, 0, 0, 0, (0), 0)) ∧
  (∀ f : mE → Prop, w_o (mft MX6_isSheet 14) f = f (.ireturn, 15, 0, 0, 1, 0, 0)) := ⟨fun _ => rfl, fun _ => rfl, fun _ => rfl, fun _ => rfl, fun _ => rfl, fun _ => rfl, fun _ => rfl, fun _ => rfl, fun _ => rfl⟩
set_option maxRecDepth 100000 in
theorem gd_X6_isSheet : mGood MX6_isSheet := ⟨by decide +kernel, by decide +kernel, by decide +kernel⟩
set_option maxRecDepth 100000 in
set_option maxHeartbeats 4000000 in
theorem ft_X6_isLane : (∀ f : mE → Prop, w_o (mft MX6_isLane 0) f = f (.iload_n 0, 1, 0, 0, 0, 0, 0)) ∧
  (∀ f : mE → Prop, w_o (mft MX6_isLane 1) f = f (.ifCond .lt 12, 4, 13, 0, 0, 0, 0)) ∧
  (∀ f : mE → Prop, w_o (mft MX6_isLane 4) f = f (.iload_n 0, 5, 0, 0, 0, 0, 0)) ∧
  (∀ f : mE → Prop, w_o (mft MX6_isLane 5) f = f (.iconst 2, 6, 0, 0, 0, (2), 0)) ∧
  (∀ f : mE → Prop, w_o (mft MX6_isLane 6) f = f (.if_icmp .gt 7, 9, 13, 0, 0, 0, 0)) ∧
  (∀ f : mE → Prop, w_o (mft MX6_isLane 9) f = f (.iconst 1, 10, 0, 0, 0, (1), 0)) ∧
  (∀ f : mE → Prop, w_o (mft MX6_isLane 10) f = f (.goto 4, 13, 14, 0, 0, 0, 0)) ∧
  (∀ f : mE → Prop, w_o (mft MX6_isLane 13) f = f (.iconst 0, 14, 0, 0, 0, (0), 0)) ∧
  (∀ f : mE → Prop, w_o (mft MX6_isLane 14) f = f (.ireturn, 15, 0, 0, 1, 0, 0)) := ⟨fun _ => rfl, fun _ => rfl, fun _ => rfl, fun _ => rfl, fun _ => rfl, fun _ => rfl, fun _ => rfl, fun _ => rfl, fun _ => rfl⟩
set_option maxRecDepth 100000 in
theorem gd_X6_isLane : mGood MX6_isLane := ⟨by decide +kernel, by decide +kernel, by decide +kernel⟩
set_option maxRecDepth 100000 in
set_option maxHeartbeats 4000000 in
theorem ft_X6_isSort : (∀ f : mE → Prop, w_o (mft MX6_isSort 0) f = f (.iload_n 0, 1, 0, 0, 0, 0, 0)) ∧
  (∀ f : mE → Prop, w_o (mft MX6_isSort 1) f = f (.ifCond .lt 12, 4, 13, 0, 0, 0, 0)) ∧
  (∀ f : mE → Prop, w_o (mft MX6_isSort 4) f = f (.iload_n 0, 5, 0, 0, 0, 0, 0)) ∧
  (∀ f : mE → Prop, w_o (mft MX6_isSort 5) f = f (.iconst 2, 6, 0, 0, 0, (2), 0)) ∧
  (∀ f : mE → Prop, w_o (mft MX6_isSort 6) f = f (.if_icmp .gt 7, 9, 13, 0, 0, 0, 0)) ∧
  (∀ f : mE → Prop, w_o (mft MX6_isSort 9) f = f (.iconst 1, 10, 0, 0, 0, (1), 0)) ∧
  (∀ f : mE → Prop, w_o (mft MX6_isSort 10) f = f (.goto 4, 13, 14, 0, 0, 0, 0)) ∧
  (∀ f : mE → Prop, w_o (mft MX6_isSort 13) f = f (.iconst 0, 14, 0, 0, 0, (0), 0)) ∧
  (∀ f : mE → Prop, w_o (mft MX6_isSort 14) f = f (.ireturn, 15, 0, 0, 1, 0, 0)) := ⟨fun _ => rfl, fun _ => rfl, fun _ => rfl, fun _ => rfl, fun _ => rfl, fun _ => rfl, fun _ => rfl, fun _ => rfl, fun _ => rfl⟩
set_option maxRecDepth 100000 in
theorem gd_X6_isSort : mGood MX6_isSort := ⟨by decide +kernel, by decide +kernel, by decide +kernel⟩
set_option maxRecDepth 100000 in
set_option maxHeartbeats 4000000 in
theorem ft_X6_hasSort : (∀ f : mE → Prop, w_o (mft MX6_hasSort 0) f = f (.aload_n 0, 1, 0, 0, 0, 0, 0)) ∧
  (∀ f : mE → Prop, w_o (mft MX6_hasSort 1) f = f (.iload_n 1, 2, 1, 0, 0, 0, 0)) ∧
  (∀ f : mE → Prop, w_o (mft MX6_hasSort 2) f = f (.invokevirtual 125, 5, 108, 1, 6, 0, 0)) ∧
  (∀ f : mE → Prop, w_o (mft MX6_hasSort 5) f = f (.getfield 129, 8, 5, 9, 0, 0, 0)) ∧
  (∀ f : mE → Prop, w_o (mft MX6_hasSort 8) f = f (.iconst 1, 9, 0, 0, 0, (1), 0)) ∧
  (∀ f : mE → Prop, w_o (mft MX6_hasSort 9) f = f (.if_icmp .eq 8, 12, 17, 0, 0, 0, 0)) ∧
  (∀ f : mE → Prop, w_o (mft MX6_hasSort 12) f = f (.iload_n 2, 13, 2, 0, 0, 0, 0)) ∧
  (∀ f : mE → Prop, w_o (mft MX6_hasSort 13) f = f (.iconst 2, 14, 0, 0, 0, (2), 0)) ∧
  (∀ f : mE → Prop, w_o (mft MX6_hasSort 14) f = f (.if_icmp .eq 7, 17, 21, 0, 0, 0, 0)) ∧
  (∀ f : mE → Prop, w_o (mft MX6_hasSort 17) f = f (.iconst 1, 18, 0, 0, 0, (1), 0)) ∧
  (∀ f : mE → Prop, w_o (mft MX6_hasSort 18) f = f (.goto 4, 21, 22, 0, 0, 0, 0)) ∧
  (∀ f : mE → Prop, w_o (mft MX6_hasSort 21) f = f (.iconst 0, 22, 0, 0, 0, (0), 0)) ∧
  (∀ f : mE → Prop, w_o (mft MX6_hasSort 22) f = f (.ireturn, 23, 0, 0, 1, 0, 0)) := ⟨fun _ => rfl, fun _ => rfl, fun _ => rfl, fun _ => rfl, fun _ => rfl, fun _ => rfl, fun _ => rfl, fun _ => rfl, fun _ => rfl, fun _ => rfl, fun _ => rfl, fun _ => rfl, fun _ => rfl⟩
set_option maxRecDepth 100000 in
theorem gd_X6_hasSort : mGood MX6_hasSort := ⟨by decide +kernel, by decide +kernel, by decide +kernel⟩
set_option maxRecDepth 100000 in
set_option maxHeartbeats 4000000 in
theorem ft_X6_traced : (∀ f : mE → Prop, w_o (mft MX6_traced 0) f = f (.aload_n 0, 1, 0, 0, 0, 0, 0)) ∧
  (∀ f : mE → Prop, w_o (mft MX6_traced 1) f = f (.getfield 43, 4, 6, 5, 0, 0, 0)) ∧
  (∀ f : mE → Prop, w_o (mft MX6_traced 4) f = f (.aload_n 0, 5, 0, 0, 0, 0, 0)) ∧
  (∀ f : mE → Prop, w_o (mft MX6_traced 5) f = f (.getfield 24, 8, 6, 2, 0, 0, 0)) ∧
  (∀ f : mE → Prop, w_o (mft MX6_traced 8) f = f (.iload_n 1, 9, 1, 0, 0, 0, 0)) ∧
  (∀ f : mE → Prop, w_o (mft MX6_traced 9) f = f (.aaload, 10, 4, 0, 0, 0, 0)) ∧
  (∀ f : mE → Prop, w_o (mft MX6_traced 10) f = f (.invokevirtual 223, 13, 57, 1, 5, 0, 0)) ∧
  (∀ f : mE → Prop, w_o (mft MX6_traced 13) f = f (.aload_n 0, 14, 0, 0, 0, 0, 0)) ∧
  (∀ f : mE → Prop, w_o (mft MX6_traced 14) f = f (.getfield 43, 17, 6, 5, 0, 0, 0)) ∧
  (∀ f : mE → Prop, w_o (mft MX6_traced 17) f = f (.areturn, 18, 0, 0, 0, 0, 0)) := ⟨fun _ => rfl, fun _ => rfl, fun _ => rfl, fun _ => rfl, fun _ => rfl, fun _ => rfl, fun _ => rfl, fun _ => rfl, fun _ => rfl, fun _ => rfl⟩
set_option maxRecDepth 100000 in
theorem gd_X6_traced : mGood MX6_traced := ⟨by decide +kernel, by decide +kernel, by decide +kernel⟩
set_option maxRecDepth 100000 in
set_option maxHeartbeats 4000000 in
theorem ft_X6_keepDraft : (∀ f : mE → Prop, w_o (mft MX6_keepDraft 0) f = f (.aload_n 0, 1, 0, 0, 0, 0, 0)) ∧
  (∀ f : mE → Prop, w_o (mft MX6_keepDraft 1) f = f (.getfield 54, 4, 6, 7, 0, 0, 0)) ∧
  (∀ f : mE → Prop, w_o (mft MX6_keepDraft 4) f = f (.bipush 8, 6, 0, 0, 0, (8), 0)) ∧
  (∀ f : mE → Prop, w_o (mft MX6_keepDraft 6) f = f (.if_icmp .lt 6, 9, 12, 0, 0, 0, 0)) ∧
  (∀ f : mE → Prop, w_o (mft MX6_keepDraft 9) f = f (.bipush (-3), 11, 0, 0, 0, (-3), 0)) ∧
  (∀ f : mE → Prop, w_o (mft MX6_keepDraft 11) f = f (.ireturn, 12, 0, 0, 0, 0, 0)) ∧
  (∀ f : mE → Prop, w_o (mft MX6_keepDraft 12) f = f (.aload_n 0, 13, 0, 0, 0, 0, 0)) ∧
  (∀ f : mE → Prop, w_o (mft MX6_keepDraft 13) f = f (.getfield 24, 16, 6, 2, 0, 0, 0)) ∧
  (∀ f : mE → Prop, w_o (mft MX6_keepDraft 16) f = f (.aload_n 0, 17, 0, 0, 0, 0, 0)) ∧
  (∀ f : mE → Prop, w_o (mft MX6_keepDraft 17) f = f (.getfield 54, 20, 6, 7, 0, 0, 0)) ∧
  (∀ f : mE → Prop, w_o (mft MX6_keepDraft 20) f = f (.aaload, 21, 4, 0, 0, 0, 0)) ∧
  (∀ f : mE → Prop, w_o (mft MX6_keepDraft 21) f = f (.aload_n 0, 22, 0, 0, 0, 0, 0)) ∧
  (∀ f : mE → Prop, w_o (mft MX6_keepDraft 22) f = f (.getfield 29, 25, 6, 3, 0, 0, 0)) ∧
  (∀ f : mE → Prop, w_o (mft MX6_keepDraft 25) f = f (.invokevirtual 101, 28, 2, 1, 0, 0, 0)) ∧
  (∀ f : mE → Prop, w_o (mft MX6_keepDraft 28) f = f (.aload_n 0, 29, 0, 0, 0, 0, 0)) ∧
  (∀ f : mE → Prop, w_o (mft MX6_keepDraft 29) f = f (.dup, 30, 0, 0, 0, 0, 0)) ∧
  (∀ f : mE → Prop, w_o (mft MX6_keepDraft 30) f = f (.getfield 54, 33, 6, 7, 0, 0, 0)) ∧
  (∀ f : mE → Prop, w_o (mft MX6_keepDraft 33) f = f (.iconst 1, 34, 0, 0, 0, (1), 0)) ∧
  (∀ f : mE → Prop, w_o (mft MX6_keepDraft 34) f = f (.iadd, 35, 0, 0, 0, 0, 0)) ∧
  (∀ f : mE → Prop, w_o (mft MX6_keepDraft 35) f = f (.putfield 54, 38, 6, 7, 0, 0, 0)) ∧
  (∀ f : mE → Prop, w_o (mft MX6_keepDraft 38) f = f (.aload_n 0, 39, 0, 0, 0, 0, 0)) ∧
  (∀ f : mE → Prop, w_o (mft MX6_keepDraft 39) f = f (.getfield 54, 42, 6, 7, 0, 0, 0)) ∧
  (∀ f : mE → Prop, w_o (mft MX6_keepDraft 42) f = f (.iconst 1, 43, 0, 0, 0, (1), 0)) ∧
  (∀ f : mE → Prop, w_o (mft MX6_keepDraft 43) f = f (.isub, 44, 0, 0, 0, 0, 0)) ∧
  (∀ f : mE → Prop, w_o (mft MX6_keepDraft 44) f = f (.ireturn, 45, 0, 0, 0, 0, 0)) := ⟨fun _ => rfl, fun _ => rfl, fun _ => rfl, fun _ => rfl, fun _ => rfl, fun _ => rfl, fun _ => rfl, fun _ => rfl, fun _ => rfl, fun _ => rfl, fun _ => rfl, fun _ => rfl, fun _ => rfl, fun _ => rfl, fun _ => rfl, fun _ => rfl, fun _ => rfl, fun _ => rfl, fun _ => rfl, fun _ => rfl, fun _ => rfl, fun _ => rfl, fun _ => rfl, fun _ => rfl, fun _ => rfl⟩
set_option maxRecDepth 100000 in
theorem gd_X6_keepDraft : mGood MX6_keepDraft := ⟨by decide +kernel, by decide +kernel, by decide +kernel⟩
set_option maxRecDepth 100000 in
set_option maxHeartbeats 4000000 in
theorem ft_X6_applyPatch : (∀ f : mE → Prop, w_o (mft MX6_applyPatch 0) f = f (.aload_n 0, 1, 0, 0, 0, 0, 0)) ∧
  (∀ f : mE → Prop, w_o (mft MX6_applyPatch 1) f = f (.getfield 24, 4, 6, 2, 0, 0, 0)) ∧
  (∀ f : mE → Prop, w_o (mft MX6_applyPatch 4) f = f (.iload_n 1, 5, 1, 0, 0, 0, 0)) ∧
  (∀ f : mE → Prop, w_o (mft MX6_applyPatch 5) f = f (.aaload, 6, 4, 0, 0, 0, 0)) ∧
  (∀ f : mE → Prop, w_o (mft MX6_applyPatch 6) f = f (.astore_n 3, 7, 3, 0, 0, 0, 0)) ∧
  (∀ f : mE → Prop, w_o (mft MX6_applyPatch 7) f = f (.aload_n 0, 8, 0, 0, 0, 0, 0)) ∧
  (∀ f : mE → Prop, w_o (mft MX6_applyPatch 8) f = f (.getfield 29, 11, 6, 3, 0, 0, 0)) ∧
  (∀ f : mE → Prop, w_o (mft MX6_applyPatch 11) f = f (.invokevirtual 210, 14, 1, 0, 0, 0, 0)) ∧
  (∀ f : mE → Prop, w_o (mft MX6_applyPatch 14) f = f (.aload_n 0, 15, 0, 0, 0, 0, 0)) ∧
  (∀ f : mE → Prop, w_o (mft MX6_applyPatch 15) f = f (.getfield 29, 18, 6, 3, 0, 0, 0)) ∧
  (∀ f : mE → Prop, w_o (mft MX6_applyPatch 18) f = f (.aload_n 3, 19, 3, 0, 0, 0, 0)) ∧
  (∀ f : mE → Prop, w_o (mft MX6_applyPatch 19) f = f (.iconst 0, 20, 0, 0, 0, (0), 0)) ∧
  (∀ f : mE → Prop, w_o (mft MX6_applyPatch 20) f = f (.iload_n 2, 21, 2, 0, 0, 0, 0)) ∧
  (∀ f : mE → Prop, w_o (mft MX6_applyPatch 21) f = f (.invokevirtual 213, 24, 7, 3, 0, 0, 0)) ∧
  (∀ f : mE → Prop, w_o (mft MX6_applyPatch 24) f = f (.ifCond .eq 45, 27, 69, 0, 0, 0, 0)) ∧
  (∀ f : mE → Prop, w_o (mft MX6_applyPatch 27) f = f (.aload_n 0, 28, 0, 0, 0, 0, 0)) ∧
  (∀ f : mE → Prop, w_o (mft MX6_applyPatch 28) f = f (.getfield 29, 31, 6, 3, 0, 0, 0)) ∧
  (∀ f : mE → Prop, w_o (mft MX6_applyPatch 31) f = f (.aload_n 0, 32, 0, 0, 0, 0, 0)) ∧
  (∀ f : mE → Prop, w_o (mft MX6_applyPatch 32) f = f (.getfield 36, 35, 6, 4, 0, 0, 0)) ∧
  (∀ f : mE → Prop, w_o (mft MX6_applyPatch 35) f = f (.invokevirtual 226, 38, 8, 1, 0, 0, 0)) ∧
  (∀ f : mE → Prop, w_o (mft MX6_applyPatch 38) f = f (.ifCond .eq 31, 41, 69, 0, 0, 0, 0)) ∧
  (∀ f : mE → Prop, w_o (mft MX6_applyPatch 41) f = f (.aload_n 0, 42, 0, 0, 0, 0, 0)) ∧
  (∀ f : mE → Prop, w_o (mft MX6_applyPatch 42) f = f (.getfield 29, 45, 6, 3, 0, 0, 0)) ∧
  (∀ f : mE → Prop, w_o (mft MX6_applyPatch 45) f = f (.aload_n 3, 46, 3, 0, 0, 0, 0)) ∧
  (∀ f : mE → Prop, w_o (mft MX6_applyPatch 46) f = f (.iload_n 2, 47, 2, 0, 0, 0, 0)) ∧
  (∀ f : mE → Prop, w_o (mft MX6_applyPatch 47) f = f (.aload_n 0, 48, 0, 0, 0, 0, 0)) ∧
  (∀ f : mE → Prop, w_o (mft MX6_applyPatch 48) f = f (.getfield 36, 51, 6, 4, 0, 0, 0)) ∧
  (∀ f : mE → Prop, w_o (mft MX6_applyPatch 51) f = f (.getfield 230, 54, 1, 3, 0, 0, 0)) ∧
  (∀ f : mE → Prop, w_o (mft MX6_applyPatch 54) f = f (.iadd, 55, 0, 0, 0, 0, 0)) ∧
  (∀ f : mE → Prop, w_o (mft MX6_applyPatch 55) f = f (.aload_n 3, 56, 3, 0, 0, 0, 0)) ∧
  (∀ f : mE → Prop, w_o (mft MX6_applyPatch 56) f = f (.getfield 119, 59, 0, 3, 0, 0, 0)) ∧
  (∀ f : mE → Prop, w_o (mft MX6_applyPatch 59) f = f (.invokevirtual 213, 62, 7, 3, 0, 0, 0)) ∧
  (∀ f : mE → Prop, w_o (mft MX6_applyPatch 62) f = f (.ifCond .eq 7, 65, 69, 0, 0, 0, 0)) ∧
  (∀ f : mE → Prop, w_o (mft MX6_applyPatch 65) f = f (.iconst 1, 66, 0, 0, 0, (1), 0)) ∧
  (∀ f : mE → Prop, w_o (mft MX6_applyPatch 66) f = f (.goto 4, 69, 70, 0, 0, 0, 0)) ∧
  (∀ f : mE → Prop, w_o (mft MX6_applyPatch 69) f = f (.iconst 0, 70, 0, 0, 0, (0), 0)) ∧
  (∀ f : mE → Prop, w_o (mft MX6_applyPatch 70) f = f (.istore 4, 72, 4, 0, 0, 0, 0)) ∧
  (∀ f : mE → Prop, w_o (mft MX6_applyPatch 72) f = f (.iload 4, 74, 4, 0, 0, 0, 0)) ∧
  (∀ f : mE → Prop, w_o (mft MX6_applyPatch 74) f = f (.ifCond .ne 6, 77, 80, 0, 0, 0, 0)) ∧
  (∀ f : mE → Prop, w_o (mft MX6_applyPatch 77) f = f (.bipush (-3), 79, 0, 0, 0, (-3), 0)) ∧
  (∀ f : mE → Prop, w_o (mft MX6_applyPatch 79) f = f (.ireturn, 80, 0, 0, 0, 0, 0)) ∧
  (∀ f : mE → Prop, w_o (mft MX6_applyPatch 80) f = f (.aload_n 3, 81, 3, 0, 0, 0, 0)) ∧
  (∀ f : mE → Prop, w_o (mft MX6_applyPatch 81) f = f (.aload_n 0, 82, 0, 0, 0, 0, 0)) ∧
  (∀ f : mE → Prop, w_o (mft MX6_applyPatch 82) f = f (.getfield 29, 85, 6, 3, 0, 0, 0)) ∧
  (∀ f : mE → Prop, w_o (mft MX6_applyPatch 85) f = f (.invokevirtual 101, 88, 2, 1, 0, 0, 0)) ∧
  (∀ f : mE → Prop, w_o (mft MX6_applyPatch 88) f = f (.aload_n 3, 89, 3, 0, 0, 0, 0)) ∧
  (∀ f : mE → Prop, w_o (mft MX6_applyPatch 89) f = f (.getfield 119, 92, 0, 3, 0, 0, 0)) ∧
  (∀ f : mE → Prop, w_o (mft MX6_applyPatch 92) f = f (.ireturn, 93, 0, 0, 0, 0, 0)) := ⟨fun _ => rfl, fun _ => rfl, fun _ => rfl, fun _ => rfl, fun _ => rfl, fun _ => rfl, fun _ => rfl, fun _ => rfl, fun _ => rfl, fun _ => rfl, fun _ => rfl, fun _ => rfl, fun _ => rfl, fun _ => rfl, fun _ => rfl, fun _ => rfl, fun _ => rfl, fun _ => rfl, fun _ => rfl, fun _ => rfl, fun _ => rfl, fun _ => rfl, fun _ => rfl, fun _ => rfl, fun _ => rfl, fun _ => rfl, fun _ => rfl, fun _ => rfl, fun _ => rfl, fun _ => rfl, fun _ => rfl, fun _ => rfl, fun _ => rfl, fun _ => rfl, fun _ => rfl, fun _ => rfl, fun _ => rfl, fun _ => rfl, fun _ => rfl, fun _ => rfl, fun _ => rfl, fun _ => rfl, fun _ => rfl, fun _ => rfl, fun _ => rfl, fun _ => rfl, fun _ => rfl, fun _ => rfl⟩
set_option maxRecDepth 100000 in
theorem gd_X6_applyPatch : mGood MX6_applyPatch := ⟨by decide +kernel, by decide +kernel, by decide +kernel⟩
