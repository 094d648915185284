/-! what stands where in each method, written by wip/whole/gen.py -/
set_option maxRecDepth 100000 in
set_option maxHeartbeats 4000000 in
theorem ft_X0_init : (∀ f : mE → Prop, w_o (mft MX0_init 0) f = f (.aload_n 0, 1, 0, 0, 0, 0, 0)) ∧
  (∀ f : mE → Prop, w_o (mft MX0_init 1) f = f (.invokespecial 3, 4, 1001, 0, 0, 0, 0)) ∧
  (∀ f : mE → Prop, w_o (mft MX0_init 4) f = f (.aload_n 0, 5, 0, 0, 0, 0, 0)) ∧
  (∀ f : mE → Prop, w_o (mft MX0_init 5) f = f (.bipush 30, 7, 0, 0, 0, (30), 0)) ∧
  (∀ f : mE → Prop, w_o (mft MX0_init 7) f = f (.newarray .int, 9, 0, 0, 0, 0, 0)) ∧
  (∀ f : mE → Prop, w_o (mft MX0_init 9) f = f (.putfield 9, 12, 0, 0, 2, 0, 0)) ∧
  (∀ f : mE → Prop, w_o (mft MX0_init 12) f = f (.aload_n 0, 13, 0, 0, 0, 0, 0)) ∧
  (∀ f : mE → Prop, w_o (mft MX0_init 13) f = f (.bipush 30, 15, 0, 0, 0, (30), 0)) ∧
  (∀ f : mE → Prop, w_o (mft MX0_init 15) f = f (.newarray .int, 17, 0, 0, 0, 0, 0)) ∧
  (∀ f : mE → Prop, w_o (mft MX0_init 17) f = f (.putfield 15, 20, 0, 1, 2, 0, 0)) ∧
  (∀ f : mE → Prop, w_o (mft MX0_init 20) f = f (.aload_n 0, 21, 0, 0, 0, 0, 0)) ∧
  (∀ f : mE → Prop, w_o (mft MX0_init 21) f = f (.bipush 31, 23, 0, 0, 0, (31), 0)) ∧
  (∀ f : mE → Prop, w_o (mft MX0_init 23) f = f (.newarray .int, 25, 0, 0, 0, 0, 0)) ∧
  (∀ f : mE → Prop, w_o (mft MX0_init 25) f = f (.putfield 18, 28, 0, 2, 2, 0, 0)) ∧
  (∀ f : mE → Prop, w_o (mft MX0_init 28) f = f (.aload_n 0, 29, 0, 0, 0, 0, 0)) ∧
  (∀ f : mE → Prop, w_o (mft MX0_init 29) f = f (.iconst 0, 30, 0, 0, 0, (0), 0)) ∧
  (∀ f : mE → Prop, w_o (mft MX0_init 30) f = f (.putfield 21, 33, 0, 3, 0, 0, 0)) ∧
  (∀ f : mE → Prop, w_o (mft MX0_init 33) f = f (.aload_n 0, 34, 0, 0, 0, 0, 0)) ∧
  (∀ f : mE → Prop, w_o (mft MX0_init 34) f = f (.iconst 0, 35, 0, 0, 0, (0), 0)) ∧
  (∀ f : mE → Prop, w_o (mft MX0_init 35) f = f (.putfield 25, 38, 0, 4, 0, 0, 0)) ∧
  (∀ f : mE → Prop, w_o (mft MX0_init 38) f = f (.return_, 39, 0, 0, 0, 0, 0)) := ⟨fun _ => rfl, fun _ => rfl, fun _ => rfl, fun _ => rfl, fun _ => rfl, fun _ => rfl, fun _ => rfl, fun _ => rfl, fun _ => rfl, fun _ => rfl, fun _ => rfl, fun _ => rfl, fun _ => rfl, fun _ => rfl, fun _ => rfl, fun _ => rfl, fun _ => rfl, fun _ => rfl, fun _ => rfl, fun _ => rfl, fun _ => rfl⟩
set_option maxRecDepth 100000 in
theorem gd_X0_init : mGood MX0_init := ⟨by decide +kernel, by decide +kernel, by decide +kernel⟩
set_option maxRecDepth 100000 in
set_option maxHeartbeats 4000000 in
theorem ft_X0_clear : (∀ f : mE → Prop, w_o (mft MX0_clear 0) f = f (.aload_n 0, 1, 0, 0, 0, 0, 0)) ∧
  (∀ f : mE → Prop, w_o (mft MX0_clear 1) f = f (.iconst 0, 2, 0, 0, 0, (0), 0)) ∧
  (∀ f : mE → Prop, w_o (mft MX0_clear 2) f = f (.putfield 21, 5, 0, 3, 0, 0, 0)) ∧
  (∀ f : mE → Prop, w_o (mft MX0_clear 5) f = f (.aload_n 0, 6, 0, 0, 0, 0, 0)) ∧
  (∀ f : mE → Prop, w_o (mft MX0_clear 6) f = f (.iconst 0, 7, 0, 0, 0, (0), 0)) ∧
  (∀ f : mE → Prop, w_o (mft MX0_clear 7) f = f (.putfield 25, 10, 0, 4, 0, 0, 0)) ∧
  (∀ f : mE → Prop, w_o (mft MX0_clear 10) f = f (.aload_n 0, 11, 0, 0, 0, 0, 0)) ∧
  (∀ f : mE → Prop, w_o (mft MX0_clear 11) f = f (.getfield 18, 14, 0, 2, 0, 0, 0)) ∧
  (∀ f : mE → Prop, w_o (mft MX0_clear 14) f = f (.iconst 0, 15, 0, 0, 0, (0), 0)) ∧
  (∀ f : mE → Prop, w_o (mft MX0_clear 15) f = f (.iconst 0, 16, 0, 0, 0, (0), 0)) ∧
  (∀ f : mE → Prop, w_o (mft MX0_clear 16) f = f (.iastore, 17, 0, 0, 0, 0, 0)) ∧
  (∀ f : mE → Prop, w_o (mft MX0_clear 17) f = f (.return_, 18, 0, 0, 0, 0, 0)) := ⟨fun _ => rfl, fun _ => rfl, fun _ => rfl, fun _ => rfl, fun _ => rfl, fun _ => rfl, fun _ => rfl, fun _ => rfl, fun _ => rfl, fun _ => rfl, fun _ => rfl, fun _ => rfl⟩
set_option maxRecDepth 100000 in
theorem gd_X0_clear : mGood MX0_clear := ⟨by decide +kernel, by decide +kernel, by decide +kernel⟩
set_option maxRecDepth 100000 in
set_option maxHeartbeats 4000000 in
theorem ft_X0_become : (∀ f : mE → Prop, w_o (mft MX0_become 0) f = f (.aload_n 1, 1, 1, 0, 0, 0, 0)) ∧
  (∀ f : mE → Prop, w_o (mft MX0_become 1) f = f (.getfield 9, 4, 0, 0, 0, 0, 0)) ∧
  (∀ f : mE → Prop, w_o (mft MX0_become 4) f = f (.iconst 0, 5, 0, 0, 0, (0), 0)) ∧
  (∀ f : mE → Prop, w_o (mft MX0_become 5) f = f (.aload_n 0, 6, 0, 0, 0, 0, 0)) ∧
  (∀ f : mE → Prop, w_o (mft MX0_become 6) f = f (.getfield 9, 9, 0, 0, 0, 0, 0)) ∧
  (∀ f : mE → Prop, w_o (mft MX0_become 9) f = f (.iconst 0, 10, 0, 0, 0, (0), 0)) ∧
  (∀ f : mE → Prop, w_o (mft MX0_become 10) f = f (.bipush 30, 12, 0, 0, 0, (30), 0)) ∧
  (∀ f : mE → Prop, w_o (mft MX0_become 12) f = f (.invokestatic 28, 15, 1000, 0, 0, 0, 0)) ∧
  (∀ f : mE → Prop, w_o (mft MX0_become 15) f = f (.aload_n 1, 16, 1, 0, 0, 0, 0)) ∧
  (∀ f : mE → Prop, w_o (mft MX0_become 16) f = f (.getfield 15, 19, 0, 1, 0, 0, 0)) ∧
  (∀ f : mE → Prop, w_o (mft MX0_become 19) f = f (.iconst 0, 20, 0, 0, 0, (0), 0)) ∧
  (∀ f : mE → Prop, w_o (mft MX0_become 20) f = f (.aload_n 0, 21, 0, 0, 0, 0, 0)) ∧
  (∀ f : mE → Prop, w_o (mft MX0_become 21) f = f (.getfield 15, 24, 0, 1, 0, 0, 0)) ∧
  (∀ f : mE → Prop, w_o (mft MX0_become 24) f = f (.iconst 0, 25, 0, 0, 0, (0), 0)) ∧
  (∀ f : mE → Prop, w_o (mft MX0_become 25) f = f (.bipush 30, 27, 0, 0, 0, (30), 0)) ∧
  (∀ f : mE → Prop, w_o (mft MX0_become 27) f = f (.invokestatic 28, 30, 1000, 0, 0, 0, 0)) ∧
  (∀ f : mE → Prop, w_o (mft MX0_become 30) f = f (.aload_n 1, 31, 1, 0, 0, 0, 0)) ∧
  (∀ f : mE → Prop, w_o (mft MX0_become 31) f = f (.getfield 18, 34, 0, 2, 0, 0, 0)) ∧
  (∀ f : mE → Prop, w_o (mft MX0_become 34) f = f (.iconst 0, 35, 0, 0, 0, (0), 0)) ∧
  (∀ f : mE → Prop, w_o (mft MX0_become 35) f = f (.aload_n 0, 36, 0, 0, 0, 0, 0)) ∧
  (∀ f : mE → Prop, w_o (mft MX0_become 36) f = f (.getfield 18, 39, 0, 2, 0, 0, 0)) ∧
  (∀ f : mE → Prop, w_o (mft MX0_become 39) f = f (.iconst 0, 40, 0, 0, 0, (0), 0)) ∧
  (∀ f : mE → Prop, w_o (mft MX0_become 40) f = f (.bipush 31, 42, 0, 0, 0, (31), 0)) ∧
  (∀ f : mE → Prop, w_o (mft MX0_become 42) f = f (.invokestatic 28, 45, 1000, 0, 0, 0, 0)) ∧
  (∀ f : mE → Prop, w_o (mft MX0_become 45) f = f (.aload_n 0, 46, 0, 0, 0, 0, 0)) ∧
  (∀ f : mE → Prop, w_o (mft MX0_become 46) f = f (.aload_n 1, 47, 1, 0, 0, 0, 0)) ∧
  (∀ f : mE → Prop, w_o (mft MX0_become 47) f = f (.getfield 21, 50, 0, 3, 0, 0, 0)) ∧
  (∀ f : mE → Prop, w_o (mft MX0_become 50) f = f (.putfield 21, 53, 0, 3, 0, 0, 0)) ∧
  (∀ f : mE → Prop, w_o (mft MX0_become 53) f = f (.aload_n 0, 54, 0, 0, 0, 0, 0)) ∧
  (∀ f : mE → Prop, w_o (mft MX0_become 54) f = f (.aload_n 1, 55, 1, 0, 0, 0, 0)) ∧
  (∀ f : mE → Prop, w_o (mft MX0_become 55) f = f (.getfield 25, 58, 0, 4, 0, 0, 0)) ∧
  (∀ f : mE → Prop, w_o (mft MX0_become 58) f = f (.putfield 25, 61, 0, 4, 0, 0, 0)) ∧
  (∀ f : mE → Prop, w_o (mft MX0_become 61) f = f (.return_, 62, 0, 0, 0, 0, 0)) := ⟨fun _ => rfl, fun _ => rfl, fun _ => rfl, fun _ => rfl, fun _ => rfl, fun _ => rfl, fun _ => rfl, fun _ => rfl, fun _ => rfl, fun _ => rfl, fun _ => rfl, fun _ => rfl, fun _ => rfl, fun _ => rfl, fun _ => rfl, fun _ => rfl, fun _ => rfl, fun _ => rfl, fun _ => rfl, fun _ => rfl, fun _ => rfl, fun _ => rfl, fun _ => rfl, fun _ => rfl, fun _ => rfl, fun _ => rfl, fun _ => rfl, fun _ => rfl, fun _ => rfl, fun _ => rfl, fun _ => rfl, fun _ => rfl, fun _ => rfl⟩
set_option maxRecDepth 100000 in
theorem gd_X0_become : mGood MX0_become := ⟨by decide +kernel, by decide +kernel, by decide +kernel⟩
set_option maxRecDepth 100000 in
set_option maxHeartbeats 4000000 in
theorem ft_X0_isWhole : (∀ f : mE → Prop, w_o (mft MX0_isWhole 0) f = f (.aload_n 0, 1, 0, 0, 0, 0, 0)) ∧
  (∀ f : mE → Prop, w_o (mft MX0_isWhole 1) f = f (.getfield 21, 4, 0, 3, 0, 0, 0)) ∧
  (∀ f : mE → Prop, w_o (mft MX0_isWhole 4) f = f (.ifCond .le 19, 7, 23, 0, 0, 0, 0)) ∧
  (∀ f : mE → Prop, w_o (mft MX0_isWhole 7) f = f (.aload_n 0, 8, 0, 0, 0, 0, 0)) ∧
  (∀ f : mE → Prop, w_o (mft MX0_isWhole 8) f = f (.getfield 18, 11, 0, 2, 0, 0, 0)) ∧
  (∀ f : mE → Prop, w_o (mft MX0_isWhole 11) f = f (.aload_n 0, 12, 0, 0, 0, 0, 0)) ∧
  (∀ f : mE → Prop, w_o (mft MX0_isWhole 12) f = f (.getfield 21, 15, 0, 3, 0, 0, 0)) ∧
  (∀ f : mE → Prop, w_o (mft MX0_isWhole 15) f = f (.iaload, 16, 0, 0, 0, 0, 0)) ∧
  (∀ f : mE → Prop, w_o (mft MX0_isWhole 16) f = f (.ifCond .ne 7, 19, 23, 0, 0, 0, 0)) ∧
  (∀ f : mE → Prop, w_o (mft MX0_isWhole 19) f = f (.iconst 1, 20, 0, 0, 0, (1), 0)) ∧
  (∀ f : mE → Prop, w_o (mft MX0_isWhole 20) f = f (.goto 4, 23, 24, 0, 0, 0, 0)) ∧
  (∀ f : mE → Prop, w_o (mft MX0_isWhole 23) f = f (.iconst 0, 24, 0, 0, 0, (0), 0)) ∧
  (∀ f : mE → Prop, w_o (mft MX0_isWhole 24) f = f (.ireturn, 25, 0, 0, 1, 0, 0)) := ⟨fun _ => rfl, fun _ => rfl, fun _ => rfl, fun _ => rfl, fun _ => rfl, fun _ => rfl, fun _ => rfl, fun _ => rfl, fun _ => rfl, fun _ => rfl, fun _ => rfl, fun _ => rfl, fun _ => rfl⟩
set_option maxRecDepth 100000 in
theorem gd_X0_isWhole : mGood MX0_isWhole := ⟨by decide +kernel, by decide +kernel, by decide +kernel⟩
set_option maxRecDepth 100000 in
set_option maxHeartbeats 4000000 in
theorem ft_X0_hasRoomFor : (∀ f : mE → Prop, w_o (mft MX0_hasRoomFor 0) f = f (.aload_n 0, 1, 0, 0, 0, 0, 0)) ∧
  (∀ f : mE → Prop, w_o (mft MX0_hasRoomFor 1) f = f (.getfield 21, 4, 0, 3, 0, 0, 0)) ∧
  (∀ f : mE → Prop, w_o (mft MX0_hasRoomFor 4) f = f (.bipush 30, 6, 0, 0, 0, (30), 0)) ∧
  (∀ f : mE → Prop, w_o (mft MX0_hasRoomFor 6) f = f (.if_icmp .lt 5, 9, 11, 0, 0, 0, 0)) ∧
  (∀ f : mE → Prop, w_o (mft MX0_hasRoomFor 9) f = f (.iconst 0, 10, 0, 0, 0, (0), 0)) ∧
  (∀ f : mE → Prop, w_o (mft MX0_hasRoomFor 10) f = f (.ireturn, 11, 0, 0, 1, 0, 0)) ∧
  (∀ f : mE → Prop, w_o (mft MX0_hasRoomFor 11) f = f (.iload_n 1, 12, 1, 0, 0, 0, 0)) ∧
  (∀ f : mE → Prop, w_o (mft MX0_hasRoomFor 12) f = f (.iconst 1, 13, 0, 0, 0, (1), 0)) ∧
  (∀ f : mE → Prop, w_o (mft MX0_hasRoomFor 13) f = f (.if_icmp .ne 18, 16, 31, 0, 0, 0, 0)) ∧
  (∀ f : mE → Prop, w_o (mft MX0_hasRoomFor 16) f = f (.aload_n 0, 17, 0, 0, 0, 0, 0)) ∧
  (∀ f : mE → Prop, w_o (mft MX0_hasRoomFor 17) f = f (.getfield 25, 20, 0, 4, 0, 0, 0)) ∧
  (∀ f : mE → Prop, w_o (mft MX0_hasRoomFor 20) f = f (.bipush 12, 22, 0, 0, 0, (12), 0)) ∧
  (∀ f : mE → Prop, w_o (mft MX0_hasRoomFor 22) f = f (.if_icmp .ge 7, 25, 29, 0, 0, 0, 0)) ∧
  (∀ f : mE → Prop, w_o (mft MX0_hasRoomFor 25) f = f (.iconst 1, 26, 0, 0, 0, (1), 0)) ∧
  (∀ f : mE → Prop, w_o (mft MX0_hasRoomFor 26) f = f (.goto 4, 29, 30, 0, 0, 0, 0)) ∧
  (∀ f : mE → Prop, w_o (mft MX0_hasRoomFor 29) f = f (.iconst 0, 30, 0, 0, 0, (0), 0)) ∧
  (∀ f : mE → Prop, w_o (mft MX0_hasRoomFor 30) f = f (.ireturn, 31, 0, 0, 1, 0, 0)) ∧
  (∀ f : mE → Prop, w_o (mft MX0_hasRoomFor 31) f = f (.iload_n 1, 32, 1, 0, 0, 0, 0)) ∧
  (∀ f : mE → Prop, w_o (mft MX0_hasRoomFor 32) f = f (.ifCond .ne 19, 35, 51, 0, 0, 0, 0)) ∧
  (∀ f : mE → Prop, w_o (mft MX0_hasRoomFor 35) f = f (.aload_n 0, 36, 0, 0, 0, 0, 0)) ∧
  (∀ f : mE → Prop, w_o (mft MX0_hasRoomFor 36) f = f (.getfield 18, 39, 0, 2, 0, 0, 0)) ∧
  (∀ f : mE → Prop, w_o (mft MX0_hasRoomFor 39) f = f (.aload_n 0, 40, 0, 0, 0, 0, 0)) ∧
  (∀ f : mE → Prop, w_o (mft MX0_hasRoomFor 40) f = f (.getfield 21, 43, 0, 3, 0, 0, 0)) ∧
  (∀ f : mE → Prop, w_o (mft MX0_hasRoomFor 43) f = f (.iaload, 44, 0, 0, 0, 0, 0)) ∧
  (∀ f : mE → Prop, w_o (mft MX0_hasRoomFor 44) f = f (.iconst 2, 45, 0, 0, 0, (2), 0)) ∧
  (∀ f : mE → Prop, w_o (mft MX0_hasRoomFor 45) f = f (.iadd, 46, 0, 0, 0, 0, 0)) ∧
  (∀ f : mE → Prop, w_o (mft MX0_hasRoomFor 46) f = f (.bipush 10, 48, 0, 0, 0, (10), 0)) ∧
  (∀ f : mE → Prop, w_o (mft MX0_hasRoomFor 48) f = f (.if_icmp .gt 7, 51, 55, 0, 0, 0, 0)) ∧
  (∀ f : mE → Prop, w_o (mft MX0_hasRoomFor 51) f = f (.iconst 1, 52, 0, 0, 0, (1), 0)) ∧
  (∀ f : mE → Prop, w_o (mft MX0_hasRoomFor 52) f = f (.goto 4, 55, 56, 0, 0, 0, 0)) ∧
  (∀ f : mE → Prop, w_o (mft MX0_hasRoomFor 55) f = f (.iconst 0, 56, 0, 0, 0, (0), 0)) ∧
  (∀ f : mE → Prop, w_o (mft MX0_hasRoomFor 56) f = f (.ireturn, 57, 0, 0, 1, 0, 0)) := ⟨fun _ => rfl, fun _ => rfl, fun _ => rfl, fun _ => rfl, fun _ => rfl, fun _ => rfl, fun _ => rfl, fun _ => rfl, fun _ => rfl, fun _ => rfl, fun _ => rfl, fun _ => rfl, fun _ => rfl, fun _ => rfl, fun _ => rfl, fun _ => rfl, fun _ => rfl, fun _ => rfl, fun _ => rfl, fun _ => rfl, fun _ => rfl, fun _ => rfl, fun _ => rfl, fun _ => rfl, fun _ => rfl, fun _ => rfl, fun _ => rfl, fun _ => rfl, fun _ => rfl, fun _ => rfl, fun _ => rfl, fun _ => rfl⟩
set_option maxRecDepth 100000 in
theorem gd_X0_hasRoomFor : mGood MX0_hasRoomFor := ⟨by decide +kernel, by decide +kernel, by decide +kernel⟩
set_option maxRecDepth 100000 in
set_option maxHeartbeats 4000000 in
theorem ft_X0_hasStrandsFor : (∀ f : mE → Prop, w_o (mft MX0_hasStrandsFor 0) f = f (.iload_n 1, 1, 1, 0, 0, 0, 0)) ∧
  (∀ f : mE → Prop, w_o (mft MX0_hasStrandsFor 1) f = f (.ifCond .ne 15, 4, 16, 0, 0, 0, 0)) ∧
  (∀ f : mE → Prop, w_o (mft MX0_hasStrandsFor 4) f = f (.aload_n 0, 5, 0, 0, 0, 0, 0)) ∧
  (∀ f : mE → Prop, w_o (mft MX0_hasStrandsFor 5) f = f (.getfield 18, 8, 0, 2, 0, 0, 0)) ∧
  (∀ f : mE → Prop, w_o (mft MX0_hasStrandsFor 8) f = f (.aload_n 0, 9, 0, 0, 0, 0, 0)) ∧
  (∀ f : mE → Prop, w_o (mft MX0_hasStrandsFor 9) f = f (.getfield 21, 12, 0, 3, 0, 0, 0)) ∧
  (∀ f : mE → Prop, w_o (mft MX0_hasStrandsFor 12) f = f (.iaload, 13, 0, 0, 0, 0, 0)) ∧
  (∀ f : mE → Prop, w_o (mft MX0_hasStrandsFor 13) f = f (.goto 14, 16, 27, 0, 0, 0, 0)) ∧
  (∀ f : mE → Prop, w_o (mft MX0_hasStrandsFor 16) f = f (.aload_n 0, 17, 0, 0, 0, 0, 0)) ∧
  (∀ f : mE → Prop, w_o (mft MX0_hasStrandsFor 17) f = f (.getfield 18, 20, 0, 2, 0, 0, 0)) ∧
  (∀ f : mE → Prop, w_o (mft MX0_hasStrandsFor 20) f = f (.aload_n 0, 21, 0, 0, 0, 0, 0)) ∧
  (∀ f : mE → Prop, w_o (mft MX0_hasStrandsFor 21) f = f (.getfield 21, 24, 0, 3, 0, 0, 0)) ∧
  (∀ f : mE → Prop, w_o (mft MX0_hasStrandsFor 24) f = f (.iaload, 25, 0, 0, 0, 0, 0)) ∧
  (∀ f : mE → Prop, w_o (mft MX0_hasStrandsFor 25) f = f (.iconst 2, 26, 0, 0, 0, (2), 0)) ∧
  (∀ f : mE → Prop, w_o (mft MX0_hasStrandsFor 26) f = f (.isub, 27, 0, 0, 0, 0, 0)) ∧
  (∀ f : mE → Prop, w_o (mft MX0_hasStrandsFor 27) f = f (.istore_n 3, 28, 3, 0, 0, 0, 0)) ∧
  (∀ f : mE → Prop, w_o (mft MX0_hasStrandsFor 28) f = f (.iload_n 2, 29, 2, 0, 0, 0, 0)) ∧
  (∀ f : mE → Prop, w_o (mft MX0_hasStrandsFor 29) f = f (.ifCond .lt 12, 32, 41, 0, 0, 0, 0)) ∧
  (∀ f : mE → Prop, w_o (mft MX0_hasStrandsFor 32) f = f (.iload_n 2, 33, 2, 0, 0, 0, 0)) ∧
  (∀ f : mE → Prop, w_o (mft MX0_hasStrandsFor 33) f = f (.iload_n 3, 34, 3, 0, 0, 0, 0)) ∧
  (∀ f : mE → Prop, w_o (mft MX0_hasStrandsFor 34) f = f (.if_icmp .gt 7, 37, 41, 0, 0, 0, 0)) ∧
  (∀ f : mE → Prop, w_o (mft MX0_hasStrandsFor 37) f = f (.iconst 1, 38, 0, 0, 0, (1), 0)) ∧
  (∀ f : mE → Prop, w_o (mft MX0_hasStrandsFor 38) f = f (.goto 4, 41, 42, 0, 0, 0, 0)) ∧
  (∀ f : mE → Prop, w_o (mft MX0_hasStrandsFor 41) f = f (.iconst 0, 42, 0, 0, 0, (0), 0)) ∧
  (∀ f : mE → Prop, w_o (mft MX0_hasStrandsFor 42) f = f (.ireturn, 43, 0, 0, 1, 0, 0)) := ⟨fun _ => rfl, fun _ => rfl, fun _ => rfl, fun _ => rfl, fun _ => rfl, fun _ => rfl, fun _ => rfl, fun _ => rfl, fun _ => rfl, fun _ => rfl, fun _ => rfl, fun _ => rfl, fun _ => rfl, fun _ => rfl, fun _ => rfl, fun _ => rfl, fun _ => rfl, fun _ => rfl, fun _ => rfl, fun _ => rfl, fun _ => rfl, fun _ => rfl, fun _ => rfl, fun _ => rfl, fun _ => rfl⟩
set_option maxRecDepth 100000 in
theorem gd_X0_hasStrandsFor : mGood MX0_hasStrandsFor := ⟨by decide +kernel, by decide +kernel, by decide +kernel⟩
set_option maxRecDepth 100000 in
set_option maxHeartbeats 4000000 in
theorem ft_X0_append : (∀ f : mE → Prop, w_o (mft MX0_append 0) f = f (.iload_n 1, 1, 1, 0, 0, 0, 0)) ∧
  (∀ f : mE → Prop, w_o (mft MX0_append 1) f = f (.ifCond .lt 25, 4, 26, 0, 0, 0, 0)) ∧
  (∀ f : mE → Prop, w_o (mft MX0_append 4) f = f (.iload_n 1, 5, 1, 0, 0, 0, 0)) ∧
  (∀ f : mE → Prop, w_o (mft MX0_append 5) f = f (.iconst 2, 6, 0, 0, 0, (2), 0)) ∧
  (∀ f : mE → Prop, w_o (mft MX0_append 6) f = f (.if_icmp .gt 20, 9, 26, 0, 0, 0, 0)) ∧
  (∀ f : mE → Prop, w_o (mft MX0_append 9) f = f (.aload_n 0, 10, 0, 0, 0, 0, 0)) ∧
  (∀ f : mE → Prop, w_o (mft MX0_append 10) f = f (.iload_n 1, 11, 1, 0, 0, 0, 0)) ∧
  (∀ f : mE → Prop, w_o (mft MX0_append 11) f = f (.invokevirtual 34, 14, 4, 1, 0, 0, 0)) ∧
  (∀ f : mE → Prop, w_o (mft MX0_append 14) f = f (.ifCond .eq 12, 17, 26, 0, 0, 0, 0)) ∧
  (∀ f : mE → Prop, w_o (mft MX0_append 17) f = f (.aload_n 0, 18, 0, 0, 0, 0, 0)) ∧
  (∀ f : mE → Prop, w_o (mft MX0_append 18) f = f (.iload_n 1, 19, 1, 0, 0, 0, 0)) ∧
  (∀ f : mE → Prop, w_o (mft MX0_append 19) f = f (.iload_n 2, 20, 2, 0, 0, 0, 0)) ∧
  (∀ f : mE → Prop, w_o (mft MX0_append 20) f = f (.invokevirtual 38, 23, 5, 2, 0, 0, 0)) ∧
  (∀ f : mE → Prop, w_o (mft MX0_append 23) f = f (.ifCond .ne 5, 26, 28, 0, 0, 0, 0)) ∧
  (∀ f : mE → Prop, w_o (mft MX0_append 26) f = f (.iconst 0, 27, 0, 0, 0, (0), 0)) ∧
  (∀ f : mE → Prop, w_o (mft MX0_append 27) f = f (.ireturn, 28, 0, 0, 1, 0, 0)) ∧
  (∀ f : mE → Prop, w_o (mft MX0_append 28) f = f (.aload_n 0, 29, 0, 0, 0, 0, 0)) ∧
  (∀ f : mE → Prop, w_o (mft MX0_append 29) f = f (.getfield 9, 32, 0, 0, 0, 0, 0)) ∧
  (∀ f : mE → Prop, w_o (mft MX0_append 32) f = f (.aload_n 0, 33, 0, 0, 0, 0, 0)) ∧
  (∀ f : mE → Prop, w_o (mft MX0_append 33) f = f (.getfield 21, 36, 0, 3, 0, 0, 0)) ∧
  (∀ f : mE → Prop, w_o (mft MX0_append 36) f = f (.iload_n 1, 37, 1, 0, 0, 0, 0)) ∧
  (∀ f : mE → Prop, w_o (mft MX0_append 37) f = f (.iastore, 38, 0, 0, 0, 0, 0)) ∧
  (∀ f : mE → Prop, w_o (mft MX0_append 38) f = f (.aload_n 0, 39, 0, 0, 0, 0, 0)) ∧
  (∀ f : mE → Prop, w_o (mft MX0_append 39) f = f (.getfield 15, 42, 0, 1, 0, 0, 0)) ∧
  (∀ f : mE → Prop, w_o (mft MX0_append 42) f = f (.aload_n 0, 43, 0, 0, 0, 0, 0)) ∧
  (∀ f : mE → Prop, w_o (mft MX0_append 43) f = f (.getfield 21, 46, 0, 3, 0, 0, 0)) ∧
  (∀ f : mE → Prop, w_o (mft MX0_append 46) f = f (.iload_n 2, 47, 2, 0, 0, 0, 0)) ∧
  (∀ f : mE → Prop, w_o (mft MX0_append 47) f = f (.iastore, 48, 0, 0, 0, 0, 0)) ∧
  (∀ f : mE → Prop, w_o (mft MX0_append 48) f = f (.aload_n 0, 49, 0, 0, 0, 0, 0)) ∧
  (∀ f : mE → Prop, w_o (mft MX0_append 49) f = f (.getfield 18, 52, 0, 2, 0, 0, 0)) ∧
  (∀ f : mE → Prop, w_o (mft MX0_append 52) f = f (.aload_n 0, 53, 0, 0, 0, 0, 0)) ∧
  (∀ f : mE → Prop, w_o (mft MX0_append 53) f = f (.getfield 21, 56, 0, 3, 0, 0, 0)) ∧
  (∀ f : mE → Prop, w_o (mft MX0_append 56) f = f (.iconst 1, 57, 0, 0, 0, (1), 0)) ∧
  (∀ f : mE → Prop, w_o (mft MX0_append 57) f = f (.iadd, 58, 0, 0, 0, 0, 0)) ∧
  (∀ f : mE → Prop, w_o (mft MX0_append 58) f = f (.aload_n 0, 59, 0, 0, 0, 0, 0)) ∧
  (∀ f : mE → Prop, w_o (mft MX0_append 59) f = f (.getfield 18, 62, 0, 2, 0, 0, 0)) ∧
  (∀ f : mE → Prop, w_o (mft MX0_append 62) f = f (.aload_n 0, 63, 0, 0, 0, 0, 0)) ∧
  (∀ f : mE → Prop, w_o (mft MX0_append 63) f = f (.getfield 21, 66, 0, 3, 0, 0, 0)) ∧
  (∀ f : mE → Prop, w_o (mft MX0_append 66) f = f (.iaload, 67, 0, 0, 0, 0, 0)) ∧
  (∀ f : mE → Prop, w_o (mft MX0_append 67) f = f (.iload_n 1, 68, 1, 0, 0, 0, 0)) ∧
  (∀ f : mE → Prop, w_o (mft MX0_append 68) f = f (.invokestatic 42, 71, 11, 1, 0, 0, 0)) ∧
  (∀ f : mE → Prop, w_o (mft MX0_append 71) f = f (.iadd, 72, 0, 0, 0, 0, 0)) ∧
  (∀ f : mE → Prop, w_o (mft MX0_append 72) f = f (.iastore, 73, 0, 0, 0, 0, 0)) ∧
  (∀ f : mE → Prop, w_o (mft MX0_append 73) f = f (.aload_n 0, 74, 0, 0, 0, 0, 0)) ∧
  (∀ f : mE → Prop, w_o (mft MX0_append 74) f = f (.dup, 75, 0, 0, 0, 0, 0)) ∧
  (∀ f : mE → Prop, w_o (mft MX0_append 75) f = f (.getfield 25, 78, 0, 4, 0, 0, 0)) ∧
  (∀ f : mE → Prop, w_o (mft MX0_append 78) f = f (.iload_n 1, 79, 1, 0, 0, 0, 0)) ∧
  (∀ f : mE → Prop, w_o (mft MX0_append 79) f = f (.iconst 1, 80, 0, 0, 0, (1), 0)) ∧
  (∀ f : mE → Prop, w_o (mft MX0_append 80) f = f (.if_icmp .ne 7, 83, 87, 0, 0, 0, 0)) ∧
  (∀ f : mE → Prop, w_o (mft MX0_append 83) f = f (.iconst 1, 84, 0, 0, 0, (1), 0)) ∧
  (∀ f : mE → Prop, w_o (mft MX0_append 84) f = f (.goto 4, 87, 88, 0, 0, 0, 0)) ∧
  (∀ f : mE → Prop, w_o (mft MX0_append 87) f = f (.iconst 0, 88, 0, 0, 0, (0), 0)) ∧
  (∀ f : mE → Prop, w_o (mft MX0_append 88) f = f (.iadd, 89, 0, 0, 0, 0, 0)) ∧
  (∀ f : mE → Prop, w_o (mft MX0_append 89) f = f (.putfield 25, 92, 0, 4, 0, 0, 0)) ∧
  (∀ f : mE → Prop, w_o (mft MX0_append 92) f = f (.aload_n 0, 93, 0, 0, 0, 0, 0)) ∧
  (∀ f : mE → Prop, w_o (mft MX0_append 93) f = f (.dup, 94, 0, 0, 0, 0, 0)) ∧
  (∀ f : mE → Prop, w_o (mft MX0_append 94) f = f (.getfield 21, 97, 0, 3, 0, 0, 0)) ∧
  (∀ f : mE → Prop, w_o (mft MX0_append 97) f = f (.iconst 1, 98, 0, 0, 0, (1), 0)) ∧
  (∀ f : mE → Prop, w_o (mft MX0_append 98) f = f (.iadd, 99, 0, 0, 0, 0, 0)) ∧
  (∀ f : mE → Prop, w_o (mft MX0_append 99) f = f (.putfield 21, 102, 0, 3, 0, 0, 0)) ∧
  (∀ f : mE → Prop, w_o (mft MX0_append 102) f = f (.iconst 1, 103, 0, 0, 0, (1), 0)) ∧
  (∀ f : mE → Prop, w_o (mft MX0_append 103) f = f (.ireturn, 104, 0, 0, 1, 0, 0)) := ⟨fun _ => rfl, fun _ => rfl, fun _ => rfl, fun _ => rfl, fun _ => rfl, fun _ => rfl, fun _ => rfl, fun _ => rfl, fun _ => rfl, fun _ => rfl, fun _ => rfl, fun _ => rfl, fun _ => rfl, fun _ => rfl, fun _ => rfl, fun _ => rfl, fun _ => rfl, fun _ => rfl, fun _ => rfl, fun _ => rfl, fun _ => rfl, fun _ => rfl, fun _ => rfl, fun _ => rfl, fun _ => rfl, fun _ => rfl, fun _ => rfl, fun _ => rfl, fun _ => rfl, fun _ => rfl, fun _ => rfl, fun _ => rfl, fun _ => rfl, fun _ => rfl, fun _ => rfl, fun _ => rfl, fun _ => rfl, fun _ => rfl, fun _ => rfl, fun _ => rfl, fun _ => rfl, fun _ => rfl, fun _ => rfl, fun _ => rfl, fun _ => rfl, fun _ => rfl, fun _ => rfl, fun _ => rfl, fun _ => rfl, fun _ => rfl, fun _ => rfl, fun _ => rfl, fun _ => rfl, fun _ => rfl, fun _ => rfl, fun _ => rfl, fun _ => rfl, fun _ => rfl, fun _ => rfl, fun _ => rfl, fun _ => rfl, fun _ => rfl⟩
set_option maxRecDepth 100000 in
theorem gd_X0_append : mGood MX0_append := ⟨by decide +kernel, by decide +kernel, by decide +kernel⟩
set_option maxRecDepth 100000 in
set_option maxHeartbeats 4000000 in
theorem ft_X0_appendRange : (∀ f : mE → Prop, w_o (mft MX0_appendRange 0) f = f (.iload_n 2, 1, 2, 0, 0, 0, 0)) ∧
  (∀ f : mE → Prop, w_o (mft MX0_appendRange 1) f = f (.istore 4, 3, 4, 0, 0, 0, 0)) ∧
  (∀ f : mE → Prop, w_o (mft MX0_appendRange 3) f = f (.iload 4, 5, 4, 0, 0, 0, 0)) ∧
  (∀ f : mE → Prop, w_o (mft MX0_appendRange 5) f = f (.iload_n 3, 6, 3, 0, 0, 0, 0)) ∧
  (∀ f : mE → Prop, w_o (mft MX0_appendRange 6) f = f (.if_icmp .ge 32, 9, 38, 0, 0, 0, 0)) ∧
  (∀ f : mE → Prop, w_o (mft MX0_appendRange 9) f = f (.aload_n 0, 10, 0, 0, 0, 0, 0)) ∧
  (∀ f : mE → Prop, w_o (mft MX0_appendRange 10) f = f (.aload_n 1, 11, 1, 0, 0, 0, 0)) ∧
  (∀ f : mE → Prop, w_o (mft MX0_appendRange 11) f = f (.getfield 9, 14, 0, 0, 0, 0, 0)) ∧
  (∀ f : mE → Prop, w_o (mft MX0_appendRange 14) f = f (.iload 4, 16, 4, 0, 0, 0, 0)) ∧
  (∀ f : mE → Prop, w_o (mft MX0_appendRange 16) f = f (.iaload, 17, 0, 0, 0, 0, 0)) ∧
  (∀ f : mE → Prop, w_o (mft MX0_appendRange 17) f = f (.aload_n 1, 18, 1, 0, 0, 0, 0)) ∧
  (∀ f : mE → Prop, w_o (mft MX0_appendRange 18) f = f (.getfield 15, 21, 0, 1, 0, 0, 0)) ∧
  (∀ f : mE → Prop, w_o (mft MX0_appendRange 21) f = f (.iload 4, 23, 4, 0, 0, 0, 0)) ∧
  (∀ f : mE → Prop, w_o (mft MX0_appendRange 23) f = f (.iaload, 24, 0, 0, 0, 0, 0)) ∧
  (∀ f : mE → Prop, w_o (mft MX0_appendRange 24) f = f (.invokevirtual 46, 27, 6, 2, 0, 0, 0)) ∧
  (∀ f : mE → Prop, w_o (mft MX0_appendRange 27) f = f (.ifCond .ne 5, 30, 32, 0, 0, 0, 0)) ∧
  (∀ f : mE → Prop, w_o (mft MX0_appendRange 30) f = f (.iconst 0, 31, 0, 0, 0, (0), 0)) ∧
  (∀ f : mE → Prop, w_o (mft MX0_appendRange 31) f = f (.ireturn, 32, 0, 0, 1, 0, 0)) ∧
  (∀ f : mE → Prop, w_o (mft MX0_appendRange 32) f = f (.iinc 4 1, 35, 4, 0, 0, (1), 0)) ∧
  (∀ f : mE → Prop, w_o (mft MX0_appendRange 35) f = f (.goto (-32), 38, 3, 0, 0, 0, 0)) ∧
  (∀ f : mE → Prop, w_o (mft MX0_appendRange 38) f = f (.iconst 1, 39, 0, 0, 0, (1), 0)) ∧
  (∀ f : mE → Prop, w_o (mft MX0_appendRange 39) f = f (.ireturn, 40, 0, 0, 1, 0, 0)) := ⟨fun _ => rfl, fun _ => rfl, fun _ => rfl, fun _ => rfl, fun _ => rfl, fun _ => rfl, fun _ => rfl, fun _ => rfl, fun _ => rfl, fun _ => rfl, fun _ => rfl, fun _ => rfl, fun _ => rfl, fun _ => rfl, fun _ => rfl, fun _ => rfl, fun _ => rfl, fun _ => rfl, fun _ => rfl, fun _ => rfl, fun _ => rfl, fun _ => rfl⟩
set_option maxRecDepth 100000 in
theorem gd_X0_appendRange : mGood MX0_appendRange := ⟨by decide +kernel, by decide +kernel, by decide +kernel⟩
set_option maxRecDepth 100000 in
set_option maxHeartbeats 4000000 in
theorem ft_X0_appendPatch : (∀ f : mE → Prop, w_o (mft MX0_appendPatch 0) f = f (.iconst 0, 1, 0, 0, 0, (0), 0)) ∧
  (∀ f : mE → Prop, w_o (mft MX0_appendPatch 1) f = f (.istore_n 2, 2, 2, 0, 0, 0, 0)) ∧
  (∀ f : mE → Prop, w_o (mft MX0_appendPatch 2) f = f (.iload_n 2, 3, 2, 0, 0, 0, 0)) ∧
  (∀ f : mE → Prop, w_o (mft MX0_appendPatch 3) f = f (.aload_n 1, 4, 1, 0, 0, 0, 0)) ∧
  (∀ f : mE → Prop, w_o (mft MX0_appendPatch 4) f = f (.getfield 49, 7, 1, 2, 0, 0, 0)) ∧
  (∀ f : mE → Prop, w_o (mft MX0_appendPatch 7) f = f (.if_icmp .ge 30, 10, 37, 0, 0, 0, 0)) ∧
  (∀ f : mE → Prop, w_o (mft MX0_appendPatch 10) f = f (.aload_n 0, 11, 0, 0, 0, 0, 0)) ∧
  (∀ f : mE → Prop, w_o (mft MX0_appendPatch 11) f = f (.aload_n 1, 12, 1, 0, 0, 0, 0)) ∧
  (∀ f : mE → Prop, w_o (mft MX0_appendPatch 12) f = f (.getfield 52, 15, 1, 0, 0, 0, 0)) ∧
  (∀ f : mE → Prop, w_o (mft MX0_appendPatch 15) f = f (.iload_n 2, 16, 2, 0, 0, 0, 0)) ∧
  (∀ f : mE → Prop, w_o (mft MX0_appendPatch 16) f = f (.iaload, 17, 0, 0, 0, 0, 0)) ∧
  (∀ f : mE → Prop, w_o (mft MX0_appendPatch 17) f = f (.aload_n 1, 18, 1, 0, 0, 0, 0)) ∧
  (∀ f : mE → Prop, w_o (mft MX0_appendPatch 18) f = f (.getfield 53, 21, 1, 1, 0, 0, 0)) ∧
  (∀ f : mE → Prop, w_o (mft MX0_appendPatch 21) f = f (.iload_n 2, 22, 2, 0, 0, 0, 0)) ∧
  (∀ f : mE → Prop, w_o (mft MX0_appendPatch 22) f = f (.iaload, 23, 0, 0, 0, 0, 0)) ∧
  (∀ f : mE → Prop, w_o (mft MX0_appendPatch 23) f = f (.invokevirtual 46, 26, 6, 2, 0, 0, 0)) ∧
  (∀ f : mE → Prop, w_o (mft MX0_appendPatch 26) f = f (.ifCond .ne 5, 29, 31, 0, 0, 0, 0)) ∧
  (∀ f : mE → Prop, w_o (mft MX0_appendPatch 29) f = f (.iconst 0, 30, 0, 0, 0, (0), 0)) ∧
  (∀ f : mE → Prop, w_o (mft MX0_appendPatch 30) f = f (.ireturn, 31, 0, 0, 1, 0, 0)) ∧
  (∀ f : mE → Prop, w_o (mft MX0_appendPatch 31) f = f (.iinc 2 1, 34, 2, 0, 0, (1), 0)) ∧
  (∀ f : mE → Prop, w_o (mft MX0_appendPatch 34) f = f (.goto (-32), 37, 2, 0, 0, 0, 0)) ∧
  (∀ f : mE → Prop, w_o (mft MX0_appendPatch 37) f = f (.iconst 1, 38, 0, 0, 0, (1), 0)) ∧
  (∀ f : mE → Prop, w_o (mft MX0_appendPatch 38) f = f (.ireturn, 39, 0, 0, 1, 0, 0)) := ⟨fun _ => rfl, fun _ => rfl, fun _ => rfl, fun _ => rfl, fun _ => rfl, fun _ => rfl, fun _ => rfl, fun _ => rfl, fun _ => rfl, fun _ => rfl, fun _ => rfl, fun _ => rfl, fun _ => rfl, fun _ => rfl, fun _ => rfl, fun _ => rfl, fun _ => rfl, fun _ => rfl, fun _ => rfl, fun _ => rfl, fun _ => rfl, fun _ => rfl, fun _ => rfl⟩
set_option maxRecDepth 100000 in
theorem gd_X0_appendPatch : mGood MX0_appendPatch := ⟨by decide +kernel, by decide +kernel, by decide +kernel⟩
set_option maxRecDepth 100000 in
set_option maxHeartbeats 4000000 in
theorem ft_X0_mostStrands : (∀ f : mE → Prop, w_o (mft MX0_mostStrands 0) f = f (.iconst 0, 1, 0, 0, 0, (0), 0)) ∧
  (∀ f : mE → Prop, w_o (mft MX0_mostStrands 1) f = f (.istore_n 1, 2, 1, 0, 0, 0, 0)) ∧
  (∀ f : mE → Prop, w_o (mft MX0_mostStrands 2) f = f (.iconst 0, 3, 0, 0, 0, (0), 0)) ∧
  (∀ f : mE → Prop, w_o (mft MX0_mostStrands 3) f = f (.istore_n 2, 4, 2, 0, 0, 0, 0)) ∧
  (∀ f : mE → Prop, w_o (mft MX0_mostStrands 4) f = f (.iload_n 2, 5, 2, 0, 0, 0, 0)) ∧
  (∀ f : mE → Prop, w_o (mft MX0_mostStrands 5) f = f (.aload_n 0, 6, 0, 0, 0, 0, 0)) ∧
  (∀ f : mE → Prop, w_o (mft MX0_mostStrands 6) f = f (.getfield 21, 9, 0, 3, 0, 0, 0)) ∧
  (∀ f : mE → Prop, w_o (mft MX0_mostStrands 9) f = f (.if_icmp .ge 20, 12, 29, 0, 0, 0, 0)) ∧
  (∀ f : mE → Prop, w_o (mft MX0_mostStrands 12) f = f (.iload_n 1, 13, 1, 0, 0, 0, 0)) ∧
  (∀ f : mE → Prop, w_o (mft MX0_mostStrands 13) f = f (.aload_n 0, 14, 0, 0, 0, 0, 0)) ∧
  (∀ f : mE → Prop, w_o (mft MX0_mostStrands 14) f = f (.getfield 18, 17, 0, 2, 0, 0, 0)) ∧
  (∀ f : mE → Prop, w_o (mft MX0_mostStrands 17) f = f (.iload_n 2, 18, 2, 0, 0, 0, 0)) ∧
  (∀ f : mE → Prop, w_o (mft MX0_mostStrands 18) f = f (.iaload, 19, 0, 0, 0, 0, 0)) ∧
  (∀ f : mE → Prop, w_o (mft MX0_mostStrands 19) f = f (.invokestatic 54, 22, 1010, 0, 0, 0, 0)) ∧
  (∀ f : mE → Prop, w_o (mft MX0_mostStrands 22) f = f (.istore_n 1, 23, 1, 0, 0, 0, 0)) ∧
  (∀ f : mE → Prop, w_o (mft MX0_mostStrands 23) f = f (.iinc 2 1, 26, 2, 0, 0, (1), 0)) ∧
  (∀ f : mE → Prop, w_o (mft MX0_mostStrands 26) f = f (.goto (-22), 29, 4, 0, 0, 0, 0)) ∧
  (∀ f : mE → Prop, w_o (mft MX0_mostStrands 29) f = f (.iload_n 1, 30, 1, 0, 0, 0, 0)) ∧
  (∀ f : mE → Prop, w_o (mft MX0_mostStrands 30) f = f (.ireturn, 31, 0, 0, 0, 0, 0)) := ⟨fun _ => rfl, fun _ => rfl, fun _ => rfl, fun _ => rfl, fun _ => rfl, fun _ => rfl, fun _ => rfl, fun _ => rfl, fun _ => rfl, fun _ => rfl, fun _ => rfl, fun _ => rfl, fun _ => rfl, fun _ => rfl, fun _ => rfl, fun _ => rfl, fun _ => rfl, fun _ => rfl, fun _ => rfl⟩
set_option maxRecDepth 100000 in
theorem gd_X0_mostStrands : mGood MX0_mostStrands := ⟨by decide +kernel, by decide +kernel, by decide +kernel⟩
set_option maxRecDepth 100000 in
set_option maxHeartbeats 4000000 in
theorem ft_X0_firstUnlike : (∀ f : mE → Prop, w_o (mft MX0_firstUnlike 0) f = f (.aload_n 0, 1, 0, 0, 0, 0, 0)) ∧
  (∀ f : mE → Prop, w_o (mft MX0_firstUnlike 1) f = f (.getfield 21, 4, 0, 3, 0, 0, 0)) ∧
  (∀ f : mE → Prop, w_o (mft MX0_firstUnlike 4) f = f (.aload_n 1, 5, 1, 0, 0, 0, 0)) ∧
  (∀ f : mE → Prop, w_o (mft MX0_firstUnlike 5) f = f (.getfield 21, 8, 0, 3, 0, 0, 0)) ∧
  (∀ f : mE → Prop, w_o (mft MX0_firstUnlike 8) f = f (.invokestatic 60, 11, 1011, 0, 0, 0, 0)) ∧
  (∀ f : mE → Prop, w_o (mft MX0_firstUnlike 11) f = f (.istore_n 2, 12, 2, 0, 0, 0, 0)) ∧
  (∀ f : mE → Prop, w_o (mft MX0_firstUnlike 12) f = f (.iconst 0, 13, 0, 0, 0, (0), 0)) ∧
  (∀ f : mE → Prop, w_o (mft MX0_firstUnlike 13) f = f (.istore_n 3, 14, 3, 0, 0, 0, 0)) ∧
  (∀ f : mE → Prop, w_o (mft MX0_firstUnlike 14) f = f (.iload_n 3, 15, 3, 0, 0, 0, 0)) ∧
  (∀ f : mE → Prop, w_o (mft MX0_firstUnlike 15) f = f (.iload_n 2, 16, 2, 0, 0, 0, 0)) ∧
  (∀ f : mE → Prop, w_o (mft MX0_firstUnlike 16) f = f (.if_icmp .ge 41, 19, 57, 0, 0, 0, 0)) ∧
  (∀ f : mE → Prop, w_o (mft MX0_firstUnlike 19) f = f (.aload_n 0, 20, 0, 0, 0, 0, 0)) ∧
  (∀ f : mE → Prop, w_o (mft MX0_firstUnlike 20) f = f (.getfield 9, 23, 0, 0, 0, 0, 0)) ∧
  (∀ f : mE → Prop, w_o (mft MX0_firstUnlike 23) f = f (.iload_n 3, 24, 3, 0, 0, 0, 0)) ∧
  (∀ f : mE → Prop, w_o (mft MX0_firstUnlike 24) f = f (.iaload, 25, 0, 0, 0, 0, 0)) ∧
  (∀ f : mE → Prop, w_o (mft MX0_firstUnlike 25) f = f (.aload_n 1, 26, 1, 0, 0, 0, 0)) ∧
  (∀ f : mE → Prop, w_o (mft MX0_firstUnlike 26) f = f (.getfield 9, 29, 0, 0, 0, 0, 0)) ∧
  (∀ f : mE → Prop, w_o (mft MX0_firstUnlike 29) f = f (.iload_n 3, 30, 3, 0, 0, 0, 0)) ∧
  (∀ f : mE → Prop, w_o (mft MX0_firstUnlike 30) f = f (.iaload, 31, 0, 0, 0, 0, 0)) ∧
  (∀ f : mE → Prop, w_o (mft MX0_firstUnlike 31) f = f (.if_icmp .ne 18, 34, 49, 0, 0, 0, 0)) ∧
  (∀ f : mE → Prop, w_o (mft MX0_firstUnlike 34) f = f (.aload_n 0, 35, 0, 0, 0, 0, 0)) ∧
  (∀ f : mE → Prop, w_o (mft MX0_firstUnlike 35) f = f (.getfield 15, 38, 0, 1, 0, 0, 0)) ∧
  (∀ f : mE → Prop, w_o (mft MX0_firstUnlike 38) f = f (.iload_n 3, 39, 3, 0, 0, 0, 0)) ∧
  (∀ f : mE → Prop, w_o (mft MX0_firstUnlike 39) f = f (.iaload, 40, 0, 0, 0, 0, 0)) ∧
  (∀ f : mE → Prop, w_o (mft MX0_firstUnlike 40) f = f (.aload_n 1, 41, 1, 0, 0, 0, 0)) ∧
  (∀ f : mE → Prop, w_o (mft MX0_firstUnlike 41) f = f (.getfield 15, 44, 0, 1, 0, 0, 0)) ∧
  (∀ f : mE → Prop, w_o (mft MX0_firstUnlike 44) f = f (.iload_n 3, 45, 3, 0, 0, 0, 0)) ∧
  (∀ f : mE → Prop, w_o (mft MX0_firstUnlike 45) f = f (.iaload, 46, 0, 0, 0, 0, 0)) ∧
  (∀ f : mE → Prop, w_o (mft MX0_firstUnlike 46) f = f (.if_icmp .eq 5, 49, 51, 0, 0, 0, 0)) ∧
  (∀ f : mE → Prop, w_o (mft MX0_firstUnlike 49) f = f (.iload_n 3, 50, 3, 0, 0, 0, 0)) ∧
  (∀ f : mE → Prop, w_o (mft MX0_firstUnlike 50) f = f (.ireturn, 51, 0, 0, 0, 0, 0)) ∧
  (∀ f : mE → Prop, w_o (mft MX0_firstUnlike 51) f = f (.iinc 3 1, 54, 3, 0, 0, (1), 0)) ∧
  (∀ f : mE → Prop, w_o (mft MX0_firstUnlike 54) f = f (.goto (-40), 57, 14, 0, 0, 0, 0)) ∧
  (∀ f : mE → Prop, w_o (mft MX0_firstUnlike 57) f = f (.aload_n 0, 58, 0, 0, 0, 0, 0)) ∧
  (∀ f : mE → Prop, w_o (mft MX0_firstUnlike 58) f = f (.getfield 21, 61, 0, 3, 0, 0, 0)) ∧
  (∀ f : mE → Prop, w_o (mft MX0_firstUnlike 61) f = f (.aload_n 1, 62, 1, 0, 0, 0, 0)) ∧
  (∀ f : mE → Prop, w_o (mft MX0_firstUnlike 62) f = f (.getfield 21, 65, 0, 3, 0, 0, 0)) ∧
  (∀ f : mE → Prop, w_o (mft MX0_firstUnlike 65) f = f (.if_icmp .ne 8, 68, 73, 0, 0, 0, 0)) ∧
  (∀ f : mE → Prop, w_o (mft MX0_firstUnlike 68) f = f (.bipush (-4), 70, 0, 0, 0, (-4), 0)) ∧
  (∀ f : mE → Prop, w_o (mft MX0_firstUnlike 70) f = f (.goto 4, 73, 74, 0, 0, 0, 0)) ∧
  (∀ f : mE → Prop, w_o (mft MX0_firstUnlike 73) f = f (.iload_n 2, 74, 2, 0, 0, 0, 0)) ∧
  (∀ f : mE → Prop, w_o (mft MX0_firstUnlike 74) f = f (.ireturn, 75, 0, 0, 0, 0, 0)) := ⟨fun _ => rfl, fun _ => rfl, fun _ => rfl, fun _ => rfl, fun _ => rfl, fun _ => rfl, fun _ => rfl, fun _ => rfl, fun _ => rfl, fun _ => rfl, fun _ => rfl, fun _ => rfl, fun _ => rfl, fun _ => rfl, fun _ => rfl, fun _ => rfl, fun _ => rfl, fun _ => rfl, fun _ => rfl, fun _ => rfl, fun _ => rfl, fun _ => rfl, fun _ => rfl, fun _ => rfl, fun _ => rfl, fun _ => rfl, fun _ => rfl, fun _ => rfl, fun _ => rfl, fun _ => rfl, fun _ => rfl, fun _ => rfl, fun _ => rfl, fun _ => rfl, fun _ => rfl, fun _ => rfl, fun _ => rfl, fun _ => rfl, fun _ => rfl, fun _ => rfl, fun _ => rfl, fun _ => rfl⟩
set_option maxRecDepth 100000 in
theorem gd_X0_firstUnlike : mGood MX0_firstUnlike := ⟨by decide +kernel, by decide +kernel, by decide +kernel⟩
set_option maxRecDepth 100000 in
set_option maxHeartbeats 4000000 in
theorem ft_X0_strandsAdded : (∀ f : mE → Prop, w_o (mft MX0_strandsAdded 0) f = f (.iload_n 0, 1, 0, 0, 0, 0, 0)) ∧
  (∀ f : mE → Prop, w_o (mft MX0_strandsAdded 1) f = f (.ifCond .ne 5, 4, 6, 0, 0, 0, 0)) ∧
  (∀ f : mE → Prop, w_o (mft MX0_strandsAdded 4) f = f (.iconst 2, 5, 0, 0, 0, (2), 0)) ∧
  (∀ f : mE → Prop, w_o (mft MX0_strandsAdded 5) f = f (.ireturn, 6, 0, 0, 0, 0, 0)) ∧
  (∀ f : mE → Prop, w_o (mft MX0_strandsAdded 6) f = f (.iload_n 0, 7, 0, 0, 0, 0, 0)) ∧
  (∀ f : mE → Prop, w_o (mft MX0_strandsAdded 7) f = f (.iconst 2, 8, 0, 0, 0, (2), 0)) ∧
  (∀ f : mE → Prop, w_o (mft MX0_strandsAdded 8) f = f (.if_icmp .ne 8, 11, 16, 0, 0, 0, 0)) ∧
  (∀ f : mE → Prop, w_o (mft MX0_strandsAdded 11) f = f (.bipush (-2), 13, 0, 0, 0, (-2), 0)) ∧
  (∀ f : mE → Prop, w_o (mft MX0_strandsAdded 13) f = f (.goto 4, 16, 17, 0, 0, 0, 0)) ∧
  (∀ f : mE → Prop, w_o (mft MX0_strandsAdded 16) f = f (.iconst 0, 17, 0, 0, 0, (0), 0)) ∧
  (∀ f : mE → Prop, w_o (mft MX0_strandsAdded 17) f = f (.ireturn, 18, 0, 0, 0, 0, 0)) := ⟨fun _ => rfl, fun _ => rfl, fun _ => rfl, fun _ => rfl, fun _ => rfl, fun _ => rfl, fun _ => rfl, fun _ => rfl, fun _ => rfl, fun _ => rfl, fun _ => rfl⟩
set_option maxRecDepth 100000 in
theorem gd_X0_strandsAdded : mGood MX0_strandsAdded := ⟨by decide +kernel, by decide +kernel, by decide +kernel⟩
set_option maxRecDepth 100000 in
set_option maxHeartbeats 4000000 in
theorem ft_X1_init : (∀ f : mE → Prop, w_o (mft MX1_init 0) f = f (.aload_n 0, 1, 0, 0, 0, 0, 0)) ∧
  (∀ f : mE → Prop, w_o (mft MX1_init 1) f = f (.invokespecial 3, 4, 1001, 0, 0, 0, 0)) ∧
  (∀ f : mE → Prop, w_o (mft MX1_init 4) f = f (.aload_n 0, 5, 0, 0, 0, 0, 0)) ∧
  (∀ f : mE → Prop, w_o (mft MX1_init 5) f = f (.iconst 3, 6, 0, 0, 0, (3), 0)) ∧
  (∀ f : mE → Prop, w_o (mft MX1_init 6) f = f (.newarray .int, 8, 0, 0, 0, 0, 0)) ∧
  (∀ f : mE → Prop, w_o (mft MX1_init 8) f = f (.putfield 11, 11, 1, 0, 2, 0, 0)) ∧
  (∀ f : mE → Prop, w_o (mft MX1_init 11) f = f (.aload_n 0, 12, 0, 0, 0, 0, 0)) ∧
  (∀ f : mE → Prop, w_o (mft MX1_init 12) f = f (.iconst 3, 13, 0, 0, 0, (3), 0)) ∧
  (∀ f : mE → Prop, w_o (mft MX1_init 13) f = f (.newarray .int, 15, 0, 0, 0, 0, 0)) ∧
  (∀ f : mE → Prop, w_o (mft MX1_init 15) f = f (.putfield 15, 18, 1, 1, 2, 0, 0)) ∧
  (∀ f : mE → Prop, w_o (mft MX1_init 18) f = f (.aload_n 0, 19, 0, 0, 0, 0, 0)) ∧
  (∀ f : mE → Prop, w_o (mft MX1_init 19) f = f (.iconst 0, 20, 0, 0, 0, (0), 0)) ∧
  (∀ f : mE → Prop, w_o (mft MX1_init 20) f = f (.putfield 18, 23, 1, 2, 0, 0, 0)) ∧
  (∀ f : mE → Prop, w_o (mft MX1_init 23) f = f (.aload_n 0, 24, 0, 0, 0, 0, 0)) ∧
  (∀ f : mE → Prop, w_o (mft MX1_init 24) f = f (.iconst 0, 25, 0, 0, 0, (0), 0)) ∧
  (∀ f : mE → Prop, w_o (mft MX1_init 25) f = f (.putfield 22, 28, 1, 3, 0, 0, 0)) ∧
  (∀ f : mE → Prop, w_o (mft MX1_init 28) f = f (.return_, 29, 0, 0, 0, 0, 0)) := ⟨fun _ => rfl, fun _ => rfl, fun _ => rfl, fun _ => rfl, fun _ => rfl, fun _ => rfl, fun _ => rfl, fun _ => rfl, fun _ => rfl, fun _ => rfl, fun _ => rfl, fun _ => rfl, fun _ => rfl, fun _ => rfl, fun _ => rfl, fun _ => rfl, fun _ => rfl⟩
set_option maxRecDepth 100000 in
theorem gd_X1_init : mGood MX1_init := ⟨by decide +kernel, by decide +kernel, by decide +kernel⟩
set_option maxRecDepth 100000 in
set_option maxHeartbeats 4000000 in
theorem ft_X1_begin : (∀ f : mE → Prop, w_o (mft MX1_begin 0) f = f (.aload_n 0, 1, 0, 0, 0, 0, 0)) ∧
  (∀ f : mE → Prop, w_o (mft MX1_begin 1) f = f (.iconst 0, 2, 0, 0, 0, (0), 0)) ∧
  (∀ f : mE → Prop, w_o (mft MX1_begin 2) f = f (.putfield 18, 5, 1, 2, 0, 0, 0)) ∧
  (∀ f : mE → Prop, w_o (mft MX1_begin 5) f = f (.aload_n 0, 6, 0, 0, 0, 0, 0)) ∧
  (∀ f : mE → Prop, w_o (mft MX1_begin 6) f = f (.iload_n 1, 7, 1, 0, 0, 0, 0)) ∧
  (∀ f : mE → Prop, w_o (mft MX1_begin 7) f = f (.putfield 22, 10, 1, 3, 0, 0, 0)) ∧
  (∀ f : mE → Prop, w_o (mft MX1_begin 10) f = f (.return_, 11, 0, 0, 0, 0, 0)) := ⟨fun _ => rfl, fun _ => rfl, fun _ => rfl, fun _ => rfl, fun _ => rfl, fun _ => rfl, fun _ => rfl⟩
set_option maxRecDepth 100000 in
theorem gd_X1_begin : mGood MX1_begin := ⟨by decide +kernel, by decide +kernel, by decide +kernel⟩
set_option maxRecDepth 100000 in
set_option maxHeartbeats 4000000 in
theorem ft_X1_put : (∀ f : mE → Prop, w_o (mft MX1_put 0) f = f (.aload_n 0, 1, 0, 0, 0, 0, 0)) ∧
  (∀ f : mE → Prop, w_o (mft MX1_put 1) f = f (.getfield 18, 4, 1, 2, 0, 0, 0)) ∧
  (∀ f : mE → Prop, w_o (mft MX1_put 4) f = f (.iconst 3, 5, 0, 0, 0, (3), 0)) ∧
  (∀ f : mE → Prop, w_o (mft MX1_put 5) f = f (.if_icmp .ge 33, 8, 38, 0, 0, 0, 0)) ∧
  (∀ f : mE → Prop, w_o (mft MX1_put 8) f = f (.aload_n 0, 9, 0, 0, 0, 0, 0)) ∧
  (∀ f : mE → Prop, w_o (mft MX1_put 9) f = f (.getfield 11, 12, 1, 0, 0, 0, 0)) ∧
  (∀ f : mE → Prop, w_o (mft MX1_put 12) f = f (.aload_n 0, 13, 0, 0, 0, 0, 0)) ∧
  (∀ f : mE → Prop, w_o (mft MX1_put 13) f = f (.getfield 18, 16, 1, 2, 0, 0, 0)) ∧
  (∀ f : mE → Prop, w_o (mft MX1_put 16) f = f (.iload_n 1, 17, 1, 0, 0, 0, 0)) ∧
  (∀ f : mE → Prop, w_o (mft MX1_put 17) f = f (.iastore, 18, 0, 0, 0, 0, 0)) ∧
  (∀ f : mE → Prop, w_o (mft MX1_put 18) f = f (.aload_n 0, 19, 0, 0, 0, 0, 0)) ∧
  (∀ f : mE → Prop, w_o (mft MX1_put 19) f = f (.getfield 15, 22, 1, 1, 0, 0, 0)) ∧
  (∀ f : mE → Prop, w_o (mft MX1_put 22) f = f (.aload_n 0, 23, 0, 0, 0, 0, 0)) ∧
  (∀ f : mE → Prop, w_o (mft MX1_put 23) f = f (.getfield 18, 26, 1, 2, 0, 0, 0)) ∧
  (∀ f : mE → Prop, w_o (mft MX1_put 26) f = f (.iload_n 2, 27, 2, 0, 0, 0, 0)) ∧
  (∀ f : mE → Prop, w_o (mft MX1_put 27) f = f (.iastore, 28, 0, 0, 0, 0, 0)) ∧
  (∀ f : mE → Prop, w_o (mft MX1_put 28) f = f (.aload_n 0, 29, 0, 0, 0, 0, 0)) ∧
  (∀ f : mE → Prop, w_o (mft MX1_put 29) f = f (.dup, 30, 0, 0, 0, 0, 0)) ∧
  (∀ f : mE → Prop, w_o (mft MX1_put 30) f = f (.getfield 18, 33, 1, 2, 0, 0, 0)) ∧
  (∀ f : mE → Prop, w_o (mft MX1_put 33) f = f (.iconst 1, 34, 0, 0, 0, (1), 0)) ∧
  (∀ f : mE → Prop, w_o (mft MX1_put 34) f = f (.iadd, 35, 0, 0, 0, 0, 0)) ∧
  (∀ f : mE → Prop, w_o (mft MX1_put 35) f = f (.putfield 18, 38, 1, 2, 0, 0, 0)) ∧
  (∀ f : mE → Prop, w_o (mft MX1_put 38) f = f (.return_, 39, 0, 0, 0, 0, 0)) := ⟨fun _ => rfl, fun _ => rfl, fun _ => rfl, fun _ => rfl, fun _ => rfl, fun _ => rfl, fun _ => rfl, fun _ => rfl, fun _ => rfl, fun _ => rfl, fun _ => rfl, fun _ => rfl, fun _ => rfl, fun _ => rfl, fun _ => rfl, fun _ => rfl, fun _ => rfl, fun _ => rfl, fun _ => rfl, fun _ => rfl, fun _ => rfl, fun _ => rfl, fun _ => rfl⟩
set_option maxRecDepth 100000 in
theorem gd_X1_put : mGood MX1_put := ⟨by decide +kernel, by decide +kernel, by decide +kernel⟩
set_option maxRecDepth 100000 in
set_option maxHeartbeats 4000000 in
theorem ft_X1_putThree : (∀ f : mE → Prop, w_o (mft MX1_putThree 0) f = f (.aload_n 0, 1, 0, 0, 0, 0, 0)) ∧
  (∀ f : mE → Prop, w_o (mft MX1_putThree 1) f = f (.iload_n 1, 2, 1, 0, 0, 0, 0)) ∧
  (∀ f : mE → Prop, w_o (mft MX1_putThree 2) f = f (.iload_n 2, 3, 2, 0, 0, 0, 0)) ∧
  (∀ f : mE → Prop, w_o (mft MX1_putThree 3) f = f (.invokevirtual 25, 6, 14, 2, 1, 0, 0)) ∧
  (∀ f : mE → Prop, w_o (mft MX1_putThree 6) f = f (.aload_n 0, 7, 0, 0, 0, 0, 0)) ∧
  (∀ f : mE → Prop, w_o (mft MX1_putThree 7) f = f (.iload_n 3, 8, 3, 0, 0, 0, 0)) ∧
  (∀ f : mE → Prop, w_o (mft MX1_putThree 8) f = f (.iload 4, 10, 4, 0, 0, 0, 0)) ∧
  (∀ f : mE → Prop, w_o (mft MX1_putThree 10) f = f (.invokevirtual 25, 13, 14, 2, 1, 0, 0)) ∧
  (∀ f : mE → Prop, w_o (mft MX1_putThree 13) f = f (.aload_n 0, 14, 0, 0, 0, 0, 0)) ∧
  (∀ f : mE → Prop, w_o (mft MX1_putThree 14) f = f (.iload 5, 16, 5, 0, 0, 0, 0)) ∧
  (∀ f : mE → Prop, w_o (mft MX1_putThree 16) f = f (.iload 6, 18, 6, 0, 0, 0, 0)) ∧
  (∀ f : mE → Prop, w_o (mft MX1_putThree 18) f = f (.invokevirtual 25, 21, 14, 2, 1, 0, 0)) ∧
  (∀ f : mE → Prop, w_o (mft MX1_putThree 21) f = f (.return_, 22, 0, 0, 0, 0, 0)) := ⟨fun _ => rfl, fun _ => rfl, fun _ => rfl, fun _ => rfl, fun _ => rfl, fun _ => rfl, fun _ => rfl, fun _ => rfl, fun _ => rfl, fun _ => rfl, fun _ => rfl, fun _ => rfl, fun _ => rfl⟩
set_option maxRecDepth 100000 in
theorem gd_X1_putThree : mGood MX1_putThree := ⟨by decide +kernel, by decide +kernel, by decide +kernel⟩
set_option maxRecDepth 100000 in
set_option maxHeartbeats 4000000 in
theorem ft_X1_planMove : (∀ f : mE → Prop, w_o (mft MX1_planMove 0) f = f (.iload_n 2, 1, 2, 0, 0, 0, 0)) ∧
  (∀ f : mE → Prop, w_o (mft MX1_planMove 1) f = f (.tableswitch 70 0 4 #[35, 42, 49, 56, 63], 36, 0, 0, 0, 0, 0)) ∧
  (∀ f : mE → Prop, w_o (mft MX1_planMove 36) f = f (.aload_n 0, 37, 0, 0, 0, 0, 0)) ∧
  (∀ f : mE → Prop, w_o (mft MX1_planMove 37) f = f (.aload_n 1, 38, 1, 0, 0, 0, 0)) ∧
  (∀ f : mE → Prop, w_o (mft MX1_planMove 38) f = f (.iload_n 3, 39, 3, 0, 0, 0, 0)) ∧
  (∀ f : mE → Prop, w_o (mft MX1_planMove 39) f = f (.invokevirtual 29, 42, 17, 2, 1, 0, 0)) ∧
  (∀ f : mE → Prop, w_o (mft MX1_planMove 42) f = f (.ireturn, 43, 0, 0, 1, 0, 0)) ∧
  (∀ f : mE → Prop, w_o (mft MX1_planMove 43) f = f (.aload_n 0, 44, 0, 0, 0, 0, 0)) ∧
  (∀ f : mE → Prop, w_o (mft MX1_planMove 44) f = f (.aload_n 1, 45, 1, 0, 0, 0, 0)) ∧
  (∀ f : mE → Prop, w_o (mft MX1_planMove 45) f = f (.iload_n 3, 46, 3, 0, 0, 0, 0)) ∧
  (∀ f : mE → Prop, w_o (mft MX1_planMove 46) f = f (.invokevirtual 33, 49, 18, 2, 1, 0, 0)) ∧
  (∀ f : mE → Prop, w_o (mft MX1_planMove 49) f = f (.ireturn, 50, 0, 0, 1, 0, 0)) ∧
  (∀ f : mE → Prop, w_o (mft MX1_planMove 50) f = f (.aload_n 0, 51, 0, 0, 0, 0, 0)) ∧
  (∀ f : mE → Prop, w_o (mft MX1_planMove 51) f = f (.aload_n 1, 52, 1, 0, 0, 0, 0)) ∧
  (∀ f : mE → Prop, w_o (mft MX1_planMove 52) f = f (.iload_n 3, 53, 3, 0, 0, 0, 0)) ∧
  (∀ f : mE → Prop, w_o (mft MX1_planMove 53) f = f (.invokevirtual 36, 56, 19, 2, 1, 0, 0)) ∧
  (∀ f : mE → Prop, w_o (mft MX1_planMove 56) f = f (.ireturn, 57, 0, 0, 1, 0, 0)) ∧
  (∀ f : mE → Prop, w_o (mft MX1_planMove 57) f = f (.aload_n 0, 58, 0, 0, 0, 0, 0)) ∧
  (∀ f : mE → Prop, w_o (mft MX1_planMove 58) f = f (.aload_n 1, 59, 1, 0, 0, 0, 0)) ∧
  (∀ f : mE → Prop, w_o (mft MX1_planMove 59) f = f (.iload_n 3, 60, 3, 0, 0, 0, 0)) ∧
  (∀ f : mE → Prop, w_o (mft MX1_planMove 60) f = f (.invokevirtual 39, 63, 20, 2, 1, 0, 0)) ∧
  (∀ f : mE → Prop, w_o (mft MX1_planMove 63) f = f (.ireturn, 64, 0, 0, 1, 0, 0)) ∧
  (∀ f : mE → Prop, w_o (mft MX1_planMove 64) f = f (.aload_n 0, 65, 0, 0, 0, 0, 0)) ∧
  (∀ f : mE → Prop, w_o (mft MX1_planMove 65) f = f (.aload_n 1, 66, 1, 0, 0, 0, 0)) ∧
  (∀ f : mE → Prop, w_o (mft MX1_planMove 66) f = f (.iload_n 3, 67, 3, 0, 0, 0, 0)) ∧
  (∀ f : mE → Prop, w_o (mft MX1_planMove 67) f = f (.invokevirtual 42, 70, 21, 2, 1, 0, 0)) ∧
  (∀ f : mE → Prop, w_o (mft MX1_planMove 70) f = f (.ireturn, 71, 0, 0, 1, 0, 0)) ∧
  (∀ f : mE → Prop, w_o (mft MX1_planMove 71) f = f (.iconst 0, 72, 0, 0, 0, (0), 0)) ∧
  (∀ f : mE → Prop, w_o (mft MX1_planMove 72) f = f (.ireturn, 73, 0, 0, 1, 0, 0)) := ⟨fun _ => rfl, fun _ => rfl, fun _ => rfl, fun _ => rfl, fun _ => rfl, fun _ => rfl, fun _ => rfl, fun _ => rfl, fun _ => rfl, fun _ => rfl, fun _ => rfl, fun _ => rfl, fun _ => rfl, fun _ => rfl, fun _ => rfl, fun _ => rfl, fun _ => rfl, fun _ => rfl, fun _ => rfl, fun _ => rfl, fun _ => rfl, fun _ => rfl, fun _ => rfl, fun _ => rfl, fun _ => rfl, fun _ => rfl, fun _ => rfl, fun _ => rfl, fun _ => rfl⟩
set_option maxRecDepth 100000 in
theorem gd_X1_planMove : mGood MX1_planMove := ⟨by decide +kernel, by decide +kernel, by decide +kernel⟩
set_option maxRecDepth 100000 in
set_option maxHeartbeats 4000000 in
theorem ft_X1_planSwap : (∀ f : mE → Prop, w_o (mft MX1_planSwap 0) f = f (.iload_n 2, 1, 2, 0, 0, 0, 0)) ∧
  (∀ f : mE → Prop, w_o (mft MX1_planSwap 1) f = f (.iconst 1, 2, 0, 0, 0, (1), 0)) ∧
  (∀ f : mE → Prop, w_o (mft MX1_planSwap 2) f = f (.iadd, 3, 0, 0, 0, 0, 0)) ∧
  (∀ f : mE → Prop, w_o (mft MX1_planSwap 3) f = f (.aload_n 1, 4, 1, 0, 0, 0, 0)) ∧
  (∀ f : mE → Prop, w_o (mft MX1_planSwap 4) f = f (.getfield 45, 7, 0, 3, 0, 0, 0)) ∧
  (∀ f : mE → Prop, w_o (mft MX1_planSwap 7) f = f (.if_icmp .lt 5, 10, 12, 0, 0, 0, 0)) ∧
  (∀ f : mE → Prop, w_o (mft MX1_planSwap 10) f = f (.iconst 0, 11, 0, 0, 0, (0), 0)) ∧
  (∀ f : mE → Prop, w_o (mft MX1_planSwap 11) f = f (.ireturn, 12, 0, 0, 1, 0, 0)) ∧
  (∀ f : mE → Prop, w_o (mft MX1_planSwap 12) f = f (.aload_n 1, 13, 1, 0, 0, 0, 0)) ∧
  (∀ f : mE → Prop, w_o (mft MX1_planSwap 13) f = f (.getfield 48, 16, 0, 0, 0, 0, 0)) ∧
  (∀ f : mE → Prop, w_o (mft MX1_planSwap 16) f = f (.iload_n 2, 17, 2, 0, 0, 0, 0)) ∧
  (∀ f : mE → Prop, w_o (mft MX1_planSwap 17) f = f (.iaload, 18, 0, 0, 0, 0, 0)) ∧
  (∀ f : mE → Prop, w_o (mft MX1_planSwap 18) f = f (.istore_n 3, 19, 3, 0, 0, 0, 0)) ∧
  (∀ f : mE → Prop, w_o (mft MX1_planSwap 19) f = f (.aload_n 1, 20, 1, 0, 0, 0, 0)) ∧
  (∀ f : mE → Prop, w_o (mft MX1_planSwap 20) f = f (.getfield 49, 23, 0, 1, 0, 0, 0)) ∧
  (∀ f : mE → Prop, w_o (mft MX1_planSwap 23) f = f (.iload_n 2, 24, 2, 0, 0, 0, 0)) ∧
  (∀ f : mE → Prop, w_o (mft MX1_planSwap 24) f = f (.iaload, 25, 0, 0, 0, 0, 0)) ∧
  (∀ f : mE → Prop, w_o (mft MX1_planSwap 25) f = f (.istore 4, 27, 4, 0, 0, 0, 0)) ∧
  (∀ f : mE → Prop, w_o (mft MX1_planSwap 27) f = f (.aload_n 1, 28, 1, 0, 0, 0, 0)) ∧
  (∀ f : mE → Prop, w_o (mft MX1_planSwap 28) f = f (.getfield 48, 31, 0, 0, 0, 0, 0)) ∧
  (∀ f : mE → Prop, w_o (mft MX1_planSwap 31) f = f (.iload_n 2, 32, 2, 0, 0, 0, 0)) ∧
  (∀ f : mE → Prop, w_o (mft MX1_planSwap 32) f = f (.iconst 1, 33, 0, 0, 0, (1), 0)) ∧
  (∀ f : mE → Prop, w_o (mft MX1_planSwap 33) f = f (.iadd, 34, 0, 0, 0, 0, 0)) ∧
  (∀ f : mE → Prop, w_o (mft MX1_planSwap 34) f = f (.iaload, 35, 0, 0, 0, 0, 0)) ∧
  (∀ f : mE → Prop, w_o (mft MX1_planSwap 35) f = f (.istore 5, 37, 5, 0, 0, 0, 0)) ∧
  (∀ f : mE → Prop, w_o (mft MX1_planSwap 37) f = f (.aload_n 1, 38, 1, 0, 0, 0, 0)) ∧
  (∀ f : mE → Prop, w_o (mft MX1_planSwap 38) f = f (.getfield 49, 41, 0, 1, 0, 0, 0)) ∧
  (∀ f : mE → Prop, w_o (mft MX1_planSwap 41) f = f (.iload_n 2, 42, 2, 0, 0, 0, 0)) ∧
  (∀ f : mE → Prop, w_o (mft MX1_planSwap 42) f = f (.iconst 1, 43, 0, 0, 0, (1), 0)) ∧
  (∀ f : mE → Prop, w_o (mft MX1_planSwap 43) f = f (.iadd, 44, 0, 0, 0, 0, 0)) ∧
  (∀ f : mE → Prop, w_o (mft MX1_planSwap 44) f = f (.iaload, 45, 0, 0, 0, 0, 0)) ∧
  (∀ f : mE → Prop, w_o (mft MX1_planSwap 45) f = f (.istore 6, 47, 6, 0, 0, 0, 0)) ∧
  (∀ f : mE → Prop, w_o (mft MX1_planSwap 47) f = f (.iload_n 3, 48, 3, 0, 0, 0, 0)) ∧
  (∀ f : mE → Prop, w_o (mft MX1_planSwap 48) f = f (.iconst 2, 49, 0, 0, 0, (2), 0)) ∧
  (∀ f : mE → Prop, w_o (mft MX1_planSwap 49) f = f (.if_icmp .ne 7, 52, 56, 0, 0, 0, 0)) ∧
  (∀ f : mE → Prop, w_o (mft MX1_planSwap 52) f = f (.iconst 0, 53, 0, 0, 0, (0), 0)) ∧
  (∀ f : mE → Prop, w_o (mft MX1_planSwap 53) f = f (.goto 4, 56, 57, 0, 0, 0, 0)) ∧
  (∀ f : mE → Prop, w_o (mft MX1_planSwap 56) f = f (.iconst 2, 57, 0, 0, 0, (2), 0)) ∧
  (∀ f : mE → Prop, w_o (mft MX1_planSwap 57) f = f (.istore 7, 59, 7, 0, 0, 0, 0)) ∧
  (∀ f : mE → Prop, w_o (mft MX1_planSwap 59) f = f (.iload 5, 61, 5, 0, 0, 0, 0)) ∧
  (∀ f : mE → Prop, w_o (mft MX1_planSwap 61) f = f (.ifCond .ne 7, 64, 68, 0, 0, 0, 0)) ∧
  (∀ f : mE → Prop, w_o (mft MX1_planSwap 64) f = f (.iconst 0, 65, 0, 0, 0, (0), 0)) ∧
  (∀ f : mE → Prop, w_o (mft MX1_planSwap 65) f = f (.goto 4, 68, 69, 0, 0, 0, 0)) ∧
  (∀ f : mE → Prop, w_o (mft MX1_planSwap 68) f = f (.iconst 2, 69, 0, 0, 0, (2), 0)) ∧
  (∀ f : mE → Prop, w_o (mft MX1_planSwap 69) f = f (.istore 8, 71, 8, 0, 0, 0, 0)) ∧
  (∀ f : mE → Prop, w_o (mft MX1_planSwap 71) f = f (.aload_n 0, 72, 0, 0, 0, 0, 0)) ∧
  (∀ f : mE → Prop, w_o (mft MX1_planSwap 72) f = f (.iconst 2, 73, 0, 0, 0, (2), 0)) ∧
  (∀ f : mE → Prop, w_o (mft MX1_planSwap 73) f = f (.invokevirtual 50, 76, 13, 1, 1, 0, 0)) ∧
  (∀ f : mE → Prop, w_o (mft MX1_planSwap 76) f = f (.iload 6, 78, 6, 0, 0, 0, 0)) ∧
  (∀ f : mE → Prop, w_o (mft MX1_planSwap 78) f = f (.iload 4, 80, 4, 0, 0, 0, 0)) ∧
  (∀ f : mE → Prop, w_o (mft MX1_planSwap 80) f = f (.iload 7, 82, 7, 0, 0, 0, 0)) ∧
  (∀ f : mE → Prop, w_o (mft MX1_planSwap 82) f = f (.iadd, 83, 0, 0, 0, 0, 0)) ∧
  (∀ f : mE → Prop, w_o (mft MX1_planSwap 83) f = f (.if_icmp .lt 25, 86, 108, 0, 0, 0, 0)) ∧
  (∀ f : mE → Prop, w_o (mft MX1_planSwap 86) f = f (.aload_n 0, 87, 0, 0, 0, 0, 0)) ∧
  (∀ f : mE → Prop, w_o (mft MX1_planSwap 87) f = f (.iload 5, 89, 5, 0, 0, 0, 0)) ∧
  (∀ f : mE → Prop, w_o (mft MX1_planSwap 89) f = f (.iload 6, 91, 6, 0, 0, 0, 0)) ∧
  (∀ f : mE → Prop, w_o (mft MX1_planSwap 91) f = f (.iload_n 3, 92, 3, 0, 0, 0, 0)) ∧
  (∀ f : mE → Prop, w_o (mft MX1_planSwap 92) f = f (.invokestatic 54, 95, 11, 1, 0, 0, 0)) ∧
  (∀ f : mE → Prop, w_o (mft MX1_planSwap 95) f = f (.isub, 96, 0, 0, 0, 0, 0)) ∧
  (∀ f : mE → Prop, w_o (mft MX1_planSwap 96) f = f (.invokevirtual 25, 99, 14, 2, 1, 0, 0)) ∧
  (∀ f : mE → Prop, w_o (mft MX1_planSwap 99) f = f (.aload_n 0, 100, 0, 0, 0, 0, 0)) ∧
  (∀ f : mE → Prop, w_o (mft MX1_planSwap 100) f = f (.iload_n 3, 101, 3, 0, 0, 0, 0)) ∧
  (∀ f : mE → Prop, w_o (mft MX1_planSwap 101) f = f (.iload 4, 103, 4, 0, 0, 0, 0)) ∧
  (∀ f : mE → Prop, w_o (mft MX1_planSwap 103) f = f (.invokevirtual 25, 106, 14, 2, 1, 0, 0)) ∧
  (∀ f : mE → Prop, w_o (mft MX1_planSwap 106) f = f (.iconst 1, 107, 0, 0, 0, (1), 0)) ∧
  (∀ f : mE → Prop, w_o (mft MX1_planSwap 107) f = f (.ireturn, 108, 0, 0, 1, 0, 0)) ∧
  (∀ f : mE → Prop, w_o (mft MX1_planSwap 108) f = f (.iload 6, 110, 6, 0, 0, 0, 0)) ∧
  (∀ f : mE → Prop, w_o (mft MX1_planSwap 110) f = f (.iload 8, 112, 8, 0, 0, 0, 0)) ∧
  (∀ f : mE → Prop, w_o (mft MX1_planSwap 112) f = f (.iadd, 113, 0, 0, 0, 0, 0)) ∧
  (∀ f : mE → Prop, w_o (mft MX1_planSwap 113) f = f (.iload 4, 115, 4, 0, 0, 0, 0)) ∧
  (∀ f : mE → Prop, w_o (mft MX1_planSwap 115) f = f (.if_icmp .gt 26, 118, 141, 0, 0, 0, 0)) ∧
  (∀ f : mE → Prop, w_o (mft MX1_planSwap 118) f = f (.aload_n 0, 119, 0, 0, 0, 0, 0)) ∧
  (∀ f : mE → Prop, w_o (mft MX1_planSwap 119) f = f (.iload 5, 121, 5, 0, 0, 0, 0)) ∧
  (∀ f : mE → Prop, w_o (mft MX1_planSwap 121) f = f (.iload 6, 123, 6, 0, 0, 0, 0)) ∧
  (∀ f : mE → Prop, w_o (mft MX1_planSwap 123) f = f (.invokevirtual 25, 126, 14, 2, 1, 0, 0)) ∧
  (∀ f : mE → Prop, w_o (mft MX1_planSwap 126) f = f (.aload_n 0, 127, 0, 0, 0, 0, 0)) ∧
  (∀ f : mE → Prop, w_o (mft MX1_planSwap 127) f = f (.iload_n 3, 128, 3, 0, 0, 0, 0)) ∧
  (∀ f : mE → Prop, w_o (mft MX1_planSwap 128) f = f (.iload 4, 130, 4, 0, 0, 0, 0)) ∧
  (∀ f : mE → Prop, w_o (mft MX1_planSwap 130) f = f (.iload 5, 132, 5, 0, 0, 0, 0)) ∧
  (∀ f : mE → Prop, w_o (mft MX1_planSwap 132) f = f (.invokestatic 54, 135, 11, 1, 0, 0, 0)) ∧
  (∀ f : mE → Prop, w_o (mft MX1_planSwap 135) f = f (.iadd, 136, 0, 0, 0, 0, 0)) ∧
  (∀ f : mE → Prop, w_o (mft MX1_planSwap 136) f = f (.invokevirtual 25, 139, 14, 2, 1, 0, 0)) ∧
  (∀ f : mE → Prop, w_o (mft MX1_planSwap 139) f = f (.iconst 1, 140, 0, 0, 0, (1), 0)) ∧
  (∀ f : mE → Prop, w_o (mft MX1_planSwap 140) f = f (.ireturn, 141, 0, 0, 1, 0, 0)) ∧
  (∀ f : mE → Prop, w_o (mft MX1_planSwap 141) f = f (.iconst 0, 142, 0, 0, 0, (0), 0)) ∧
  (∀ f : mE → Prop, w_o (mft MX1_planSwap 142) f = f (.ireturn, 143, 0, 0, 1, 0, 0)) := ⟨fun _ => rfl, fun _ => rfl, fun _ => rfl, fun _ => rfl, fun _ => rfl, fun _ => rfl, fun _ => rfl, fun _ => rfl, fun _ => rfl, fun _ => rfl, fun _ => rfl, fun _ => rfl, fun _ => rfl, fun _ => rfl, fun _ => rfl, fun _ => rfl, fun _ => rfl, fun _ => rfl, fun _ => rfl, fun _ => rfl, fun _ => rfl, fun _ => rfl, fun _ => rfl, fun _ => rfl, fun _ => rfl, fun _ => rfl, fun _ => rfl, fun _ => rfl, fun _ => rfl, fun _ => rfl, fun _ => rfl, fun _ => rfl, fun _ => rfl, fun _ => rfl, fun _ => rfl, fun _ => rfl, fun _ => rfl, fun _ => rfl, fun _ => rfl, fun _ => rfl, fun _ => rfl, fun _ => rfl, fun _ => rfl, fun _ => rfl, fun _ => rfl, fun _ => rfl, fun _ => rfl, fun _ => rfl, fun _ => rfl, fun _ => rfl, fun _ => rfl, fun _ => rfl, fun _ => rfl, fun _ => rfl, fun _ => rfl, fun _ => rfl, fun _ => rfl, fun _ => rfl, fun _ => rfl, fun _ => rfl, fun _ => rfl, fun _ => rfl, fun _ => rfl, fun _ => rfl, fun _ => rfl, fun _ => rfl, fun _ => rfl, fun _ => rfl, fun _ => rfl, fun _ => rfl, fun _ => rfl, fun _ => rfl, fun _ => rfl, fun _ => rfl, fun _ => rfl, fun _ => rfl, fun _ => rfl, fun _ => rfl, fun _ => rfl, fun _ => rfl, fun _ => rfl, fun _ => rfl, fun _ => rfl, fun _ => rfl, fun _ => rfl, fun _ => rfl⟩
set_option maxRecDepth 100000 in
theorem gd_X1_planSwap : mGood MX1_planSwap := ⟨by decide +kernel, by decide +kernel, by decide +kernel⟩
set_option maxRecDepth 100000 in
set_option maxHeartbeats 4000000 in
theorem ft_X1_planSlide : (∀ f : mE → Prop, w_o (mft MX1_planSlide 0) f = f (.aload_n 1, 1, 1, 0, 0, 0, 0)) ∧
  (∀ f : mE → Prop, w_o (mft MX1_planSlide 1) f = f (.iload_n 2, 2, 2, 0, 0, 0, 0)) ∧
  (∀ f : mE → Prop, w_o (mft MX1_planSlide 2) f = f (.iconst 1, 3, 0, 0, 0, (1), 0)) ∧
  (∀ f : mE → Prop, w_o (mft MX1_planSlide 3) f = f (.iconst 1, 4, 0, 0, 0, (1), 0)) ∧
  (∀ f : mE → Prop, w_o (mft MX1_planSlide 4) f = f (.iconst 1, 5, 0, 0, 0, (1), 0)) ∧
  (∀ f : mE → Prop, w_o (mft MX1_planSlide 5) f = f (.invokestatic 58, 8, 22, 5, 1, 0, 0)) ∧
  (∀ f : mE → Prop, w_o (mft MX1_planSlide 8) f = f (.ifCond .eq 11, 11, 19, 0, 0, 0, 0)) ∧
  (∀ f : mE → Prop, w_o (mft MX1_planSlide 11) f = f (.aload_n 1, 12, 1, 0, 0, 0, 0)) ∧
  (∀ f : mE → Prop, w_o (mft MX1_planSlide 12) f = f (.iload_n 2, 13, 2, 0, 0, 0, 0)) ∧
  (∀ f : mE → Prop, w_o (mft MX1_planSlide 13) f = f (.invokestatic 62, 16, 23, 2, 1, 0, 0)) ∧
  (∀ f : mE → Prop, w_o (mft MX1_planSlide 16) f = f (.ifCond .ne 5, 19, 21, 0, 0, 0, 0)) ∧
  (∀ f : mE → Prop, w_o (mft MX1_planSlide 19) f = f (.iconst 0, 20, 0, 0, 0, (0), 0)) ∧
  (∀ f : mE → Prop, w_o (mft MX1_planSlide 20) f = f (.ireturn, 21, 0, 0, 1, 0, 0)) ∧
  (∀ f : mE → Prop, w_o (mft MX1_planSlide 21) f = f (.aload_n 0, 22, 0, 0, 0, 0, 0)) ∧
  (∀ f : mE → Prop, w_o (mft MX1_planSlide 22) f = f (.iconst 3, 23, 0, 0, 0, (3), 0)) ∧
  (∀ f : mE → Prop, w_o (mft MX1_planSlide 23) f = f (.invokevirtual 50, 26, 13, 1, 1, 0, 0)) ∧
  (∀ f : mE → Prop, w_o (mft MX1_planSlide 26) f = f (.aload_n 1, 27, 1, 0, 0, 0, 0)) ∧
  (∀ f : mE → Prop, w_o (mft MX1_planSlide 27) f = f (.getfield 49, 30, 0, 1, 0, 0, 0)) ∧
  (∀ f : mE → Prop, w_o (mft MX1_planSlide 30) f = f (.iload_n 2, 31, 2, 0, 0, 0, 0)) ∧
  (∀ f : mE → Prop, w_o (mft MX1_planSlide 31) f = f (.iaload, 32, 0, 0, 0, 0, 0)) ∧
  (∀ f : mE → Prop, w_o (mft MX1_planSlide 32) f = f (.istore_n 3, 33, 3, 0, 0, 0, 0)) ∧
  (∀ f : mE → Prop, w_o (mft MX1_planSlide 33) f = f (.aload_n 1, 34, 1, 0, 0, 0, 0)) ∧
  (∀ f : mE → Prop, w_o (mft MX1_planSlide 34) f = f (.getfield 49, 37, 0, 1, 0, 0, 0)) ∧
  (∀ f : mE → Prop, w_o (mft MX1_planSlide 37) f = f (.iload_n 2, 38, 2, 0, 0, 0, 0)) ∧
  (∀ f : mE → Prop, w_o (mft MX1_planSlide 38) f = f (.iconst 1, 39, 0, 0, 0, (1), 0)) ∧
  (∀ f : mE → Prop, w_o (mft MX1_planSlide 39) f = f (.iadd, 40, 0, 0, 0, 0, 0)) ∧
  (∀ f : mE → Prop, w_o (mft MX1_planSlide 40) f = f (.iaload, 41, 0, 0, 0, 0, 0)) ∧
  (∀ f : mE → Prop, w_o (mft MX1_planSlide 41) f = f (.istore 4, 43, 4, 0, 0, 0, 0)) ∧
  (∀ f : mE → Prop, w_o (mft MX1_planSlide 43) f = f (.aload_n 0, 44, 0, 0, 0, 0, 0)) ∧
  (∀ f : mE → Prop, w_o (mft MX1_planSlide 44) f = f (.iconst 1, 45, 0, 0, 0, (1), 0)) ∧
  (∀ f : mE → Prop, w_o (mft MX1_planSlide 45) f = f (.iload 4, 47, 4, 0, 0, 0, 0)) ∧
  (∀ f : mE → Prop, w_o (mft MX1_planSlide 47) f = f (.iconst 1, 48, 0, 0, 0, (1), 0)) ∧
  (∀ f : mE → Prop, w_o (mft MX1_planSlide 48) f = f (.iload_n 3, 49, 3, 0, 0, 0, 0)) ∧
  (∀ f : mE → Prop, w_o (mft MX1_planSlide 49) f = f (.iconst 1, 50, 0, 0, 0, (1), 0)) ∧
  (∀ f : mE → Prop, w_o (mft MX1_planSlide 50) f = f (.iload 4, 52, 4, 0, 0, 0, 0)) ∧
  (∀ f : mE → Prop, w_o (mft MX1_planSlide 52) f = f (.invokevirtual 65, 55, 15, 6, 1, 0, 0)) ∧
  (∀ f : mE → Prop, w_o (mft MX1_planSlide 55) f = f (.iconst 1, 56, 0, 0, 0, (1), 0)) ∧
  (∀ f : mE → Prop, w_o (mft MX1_planSlide 56) f = f (.ireturn, 57, 0, 0, 1, 0, 0)) := ⟨fun _ => rfl, fun _ => rfl, fun _ => rfl, fun _ => rfl, fun _ => rfl, fun _ => rfl, fun _ => rfl, fun _ => rfl, fun _ => rfl, fun _ => rfl, fun _ => rfl, fun _ => rfl, fun _ => rfl, fun _ => rfl, fun _ => rfl, fun _ => rfl, fun _ => rfl, fun _ => rfl, fun _ => rfl, fun _ => rfl, fun _ => rfl, fun _ => rfl, fun _ => rfl, fun _ => rfl, fun _ => rfl, fun _ => rfl, fun _ => rfl, fun _ => rfl, fun _ => rfl, fun _ => rfl, fun _ => rfl, fun _ => rfl, fun _ => rfl, fun _ => rfl, fun _ => rfl, fun _ => rfl, fun _ => rfl, fun _ => rfl⟩
set_option maxRecDepth 100000 in
theorem gd_X1_planSlide : mGood MX1_planSlide := ⟨by decide +kernel, by decide +kernel, by decide +kernel⟩
set_option maxRecDepth 100000 in
set_option maxHeartbeats 4000000 in
theorem ft_X1_planUncurl : (∀ f : mE → Prop, w_o (mft MX1_planUncurl 0) f = f (.aload_n 0, 1, 0, 0, 0, 0, 0)) ∧
  (∀ f : mE → Prop, w_o (mft MX1_planUncurl 1) f = f (.iconst 3, 2, 0, 0, 0, (3), 0)) ∧
  (∀ f : mE → Prop, w_o (mft MX1_planUncurl 2) f = f (.invokevirtual 50, 5, 13, 1, 1, 0, 0)) ∧
  (∀ f : mE → Prop, w_o (mft MX1_planUncurl 5) f = f (.aload_n 1, 6, 1, 0, 0, 0, 0)) ∧
  (∀ f : mE → Prop, w_o (mft MX1_planUncurl 6) f = f (.iload_n 2, 7, 2, 0, 0, 0, 0)) ∧
  (∀ f : mE → Prop, w_o (mft MX1_planUncurl 7) f = f (.iconst 0, 8, 0, 0, 0, (0), 0)) ∧
  (∀ f : mE → Prop, w_o (mft MX1_planUncurl 8) f = f (.iconst 1, 9, 0, 0, 0, (1), 0)) ∧
  (∀ f : mE → Prop, w_o (mft MX1_planUncurl 9) f = f (.iconst 2, 10, 0, 0, 0, (2), 0)) ∧
  (∀ f : mE → Prop, w_o (mft MX1_planUncurl 10) f = f (.invokestatic 58, 13, 22, 5, 1, 0, 0)) ∧
  (∀ f : mE → Prop, w_o (mft MX1_planUncurl 13) f = f (.ifCond .eq 15, 16, 28, 0, 0, 0, 0)) ∧
  (∀ f : mE → Prop, w_o (mft MX1_planUncurl 16) f = f (.aload_n 1, 17, 1, 0, 0, 0, 0)) ∧
  (∀ f : mE → Prop, w_o (mft MX1_planUncurl 17) f = f (.iload_n 2, 18, 2, 0, 0, 0, 0)) ∧
  (∀ f : mE → Prop, w_o (mft MX1_planUncurl 18) f = f (.invokestatic 62, 21, 23, 2, 1, 0, 0)) ∧
  (∀ f : mE → Prop, w_o (mft MX1_planUncurl 21) f = f (.ifCond .eq 7, 24, 28, 0, 0, 0, 0)) ∧
  (∀ f : mE → Prop, w_o (mft MX1_planUncurl 24) f = f (.iconst 1, 25, 0, 0, 0, (1), 0)) ∧
  (∀ f : mE → Prop, w_o (mft MX1_planUncurl 25) f = f (.goto 4, 28, 29, 0, 0, 0, 0)) ∧
  (∀ f : mE → Prop, w_o (mft MX1_planUncurl 28) f = f (.iconst 0, 29, 0, 0, 0, (0), 0)) ∧
  (∀ f : mE → Prop, w_o (mft MX1_planUncurl 29) f = f (.ireturn, 30, 0, 0, 1, 0, 0)) := ⟨fun _ => rfl, fun _ => rfl, fun _ => rfl, fun _ => rfl, fun _ => rfl, fun _ => rfl, fun _ => rfl, fun _ => rfl, fun _ => rfl, fun _ => rfl, fun _ => rfl, fun _ => rfl, fun _ => rfl, fun _ => rfl, fun _ => rfl, fun _ => rfl, fun _ => rfl, fun _ => rfl⟩
set_option maxRecDepth 100000 in
theorem gd_X1_planUncurl : mGood MX1_planUncurl := ⟨by decide +kernel, by decide +kernel, by decide +kernel⟩
set_option maxRecDepth 100000 in
set_option maxHeartbeats 4000000 in
theorem ft_X1_planPull : (∀ f : mE → Prop, w_o (mft MX1_planPull 0) f = f (.aload_n 1, 1, 1, 0, 0, 0, 0)) ∧
  (∀ f : mE → Prop, w_o (mft MX1_planPull 1) f = f (.iload_n 2, 2, 2, 0, 0, 0, 0)) ∧
  (∀ f : mE → Prop, w_o (mft MX1_planPull 2) f = f (.iconst 0, 3, 0, 0, 0, (0), 0)) ∧
  (∀ f : mE → Prop, w_o (mft MX1_planPull 3) f = f (.iconst 1, 4, 0, 0, 0, (1), 0)) ∧
  (∀ f : mE → Prop, w_o (mft MX1_planPull 4) f = f (.iconst 1, 5, 0, 0, 0, (1), 0)) ∧
  (∀ f : mE → Prop, w_o (mft MX1_planPull 5) f = f (.invokestatic 58, 8, 22, 5, 1, 0, 0)) ∧
  (∀ f : mE → Prop, w_o (mft MX1_planPull 8) f = f (.istore_n 3, 9, 3, 0, 0, 0, 0)) ∧
  (∀ f : mE → Prop, w_o (mft MX1_planPull 9) f = f (.aload_n 1, 10, 1, 0, 0, 0, 0)) ∧
  (∀ f : mE → Prop, w_o (mft MX1_planPull 10) f = f (.iload_n 2, 11, 2, 0, 0, 0, 0)) ∧
  (∀ f : mE → Prop, w_o (mft MX1_planPull 11) f = f (.iconst 1, 12, 0, 0, 0, (1), 0)) ∧
  (∀ f : mE → Prop, w_o (mft MX1_planPull 12) f = f (.iconst 1, 13, 0, 0, 0, (1), 0)) ∧
  (∀ f : mE → Prop, w_o (mft MX1_planPull 13) f = f (.iconst 2, 14, 0, 0, 0, (2), 0)) ∧
  (∀ f : mE → Prop, w_o (mft MX1_planPull 14) f = f (.invokestatic 58, 17, 22, 5, 1, 0, 0)) ∧
  (∀ f : mE → Prop, w_o (mft MX1_planPull 17) f = f (.istore 4, 19, 4, 0, 0, 0, 0)) ∧
  (∀ f : mE → Prop, w_o (mft MX1_planPull 19) f = f (.iload_n 3, 20, 3, 0, 0, 0, 0)) ∧
  (∀ f : mE → Prop, w_o (mft MX1_planPull 20) f = f (.ifCond .ne 8, 23, 28, 0, 0, 0, 0)) ∧
  (∀ f : mE → Prop, w_o (mft MX1_planPull 23) f = f (.iload 4, 25, 4, 0, 0, 0, 0)) ∧
  (∀ f : mE → Prop, w_o (mft MX1_planPull 25) f = f (.ifCond .eq 11, 28, 36, 0, 0, 0, 0)) ∧
  (∀ f : mE → Prop, w_o (mft MX1_planPull 28) f = f (.aload_n 1, 29, 1, 0, 0, 0, 0)) ∧
  (∀ f : mE → Prop, w_o (mft MX1_planPull 29) f = f (.iload_n 2, 30, 2, 0, 0, 0, 0)) ∧
  (∀ f : mE → Prop, w_o (mft MX1_planPull 30) f = f (.invokestatic 62, 33, 23, 2, 1, 0, 0)) ∧
  (∀ f : mE → Prop, w_o (mft MX1_planPull 33) f = f (.ifCond .ne 5, 36, 38, 0, 0, 0, 0)) ∧
  (∀ f : mE → Prop, w_o (mft MX1_planPull 36) f = f (.iconst 0, 37, 0, 0, 0, (0), 0)) ∧
  (∀ f : mE → Prop, w_o (mft MX1_planPull 37) f = f (.ireturn, 38, 0, 0, 1, 0, 0)) ∧
  (∀ f : mE → Prop, w_o (mft MX1_planPull 38) f = f (.aload_n 0, 39, 0, 0, 0, 0, 0)) ∧
  (∀ f : mE → Prop, w_o (mft MX1_planPull 39) f = f (.iconst 3, 40, 0, 0, 0, (3), 0)) ∧
  (∀ f : mE → Prop, w_o (mft MX1_planPull 40) f = f (.invokevirtual 50, 43, 13, 1, 1, 0, 0)) ∧
  (∀ f : mE → Prop, w_o (mft MX1_planPull 43) f = f (.aload_n 0, 44, 0, 0, 0, 0, 0)) ∧
  (∀ f : mE → Prop, w_o (mft MX1_planPull 44) f = f (.iload_n 3, 45, 3, 0, 0, 0, 0)) ∧
  (∀ f : mE → Prop, w_o (mft MX1_planPull 45) f = f (.ifCond .eq 7, 48, 52, 0, 0, 0, 0)) ∧
  (∀ f : mE → Prop, w_o (mft MX1_planPull 48) f = f (.iconst 0, 49, 0, 0, 0, (0), 0)) ∧
  (∀ f : mE → Prop, w_o (mft MX1_planPull 49) f = f (.goto 4, 52, 53, 0, 0, 0, 0)) ∧
  (∀ f : mE → Prop, w_o (mft MX1_planPull 52) f = f (.iconst 2, 53, 0, 0, 0, (2), 0)) ∧
  (∀ f : mE → Prop, w_o (mft MX1_planPull 53) f = f (.aload_n 1, 54, 1, 0, 0, 0, 0)) ∧
  (∀ f : mE → Prop, w_o (mft MX1_planPull 54) f = f (.getfield 49, 57, 0, 1, 0, 0, 0)) ∧
  (∀ f : mE → Prop, w_o (mft MX1_planPull 57) f = f (.iload_n 2, 58, 2, 0, 0, 0, 0)) ∧
  (∀ f : mE → Prop, w_o (mft MX1_planPull 58) f = f (.iconst 1, 59, 0, 0, 0, (1), 0)) ∧
  (∀ f : mE → Prop, w_o (mft MX1_planPull 59) f = f (.iadd, 60, 0, 0, 0, 0, 0)) ∧
  (∀ f : mE → Prop, w_o (mft MX1_planPull 60) f = f (.iaload, 61, 0, 0, 0, 0, 0)) ∧
  (∀ f : mE → Prop, w_o (mft MX1_planPull 61) f = f (.invokevirtual 25, 64, 14, 2, 1, 0, 0)) ∧
  (∀ f : mE → Prop, w_o (mft MX1_planPull 64) f = f (.iconst 1, 65, 0, 0, 0, (1), 0)) ∧
  (∀ f : mE → Prop, w_o (mft MX1_planPull 65) f = f (.ireturn, 66, 0, 0, 1, 0, 0)) := ⟨fun _ => rfl, fun _ => rfl, fun _ => rfl, fun _ => rfl, fun _ => rfl, fun _ => rfl, fun _ => rfl, fun _ => rfl, fun _ => rfl, fun _ => rfl, fun _ => rfl, fun _ => rfl, fun _ => rfl, fun _ => rfl, fun _ => rfl, fun _ => rfl, fun _ => rfl, fun _ => rfl, fun _ => rfl, fun _ => rfl, fun _ => rfl, fun _ => rfl, fun _ => rfl, fun _ => rfl, fun _ => rfl, fun _ => rfl, fun _ => rfl, fun _ => rfl, fun _ => rfl, fun _ => rfl, fun _ => rfl, fun _ => rfl, fun _ => rfl, fun _ => rfl, fun _ => rfl, fun _ => rfl, fun _ => rfl, fun _ => rfl, fun _ => rfl, fun _ => rfl, fun _ => rfl, fun _ => rfl⟩
set_option maxRecDepth 100000 in
theorem gd_X1_planPull : mGood MX1_planPull := ⟨by decide +kernel, by decide +kernel, by decide +kernel⟩
set_option maxRecDepth 100000 in
set_option maxHeartbeats 4000000 in
theorem ft_X1_planStraighten : (∀ f : mE → Prop, w_o (mft MX1_planStraighten 0) f = f (.aload_n 0, 1, 0, 0, 0, 0, 0)) ∧
  (∀ f : mE → Prop, w_o (mft MX1_planStraighten 1) f = f (.iconst 2, 2, 0, 0, 0, (2), 0)) ∧
  (∀ f : mE → Prop, w_o (mft MX1_planStraighten 2) f = f (.invokevirtual 50, 5, 13, 1, 1, 0, 0)) ∧
  (∀ f : mE → Prop, w_o (mft MX1_planStraighten 5) f = f (.iload_n 2, 6, 2, 0, 0, 0, 0)) ∧
  (∀ f : mE → Prop, w_o (mft MX1_planStraighten 6) f = f (.iconst 1, 7, 0, 0, 0, (1), 0)) ∧
  (∀ f : mE → Prop, w_o (mft MX1_planStraighten 7) f = f (.iadd, 8, 0, 0, 0, 0, 0)) ∧
  (∀ f : mE → Prop, w_o (mft MX1_planStraighten 8) f = f (.aload_n 1, 9, 1, 0, 0, 0, 0)) ∧
  (∀ f : mE → Prop, w_o (mft MX1_planStraighten 9) f = f (.getfield 45, 12, 0, 3, 0, 0, 0)) ∧
  (∀ f : mE → Prop, w_o (mft MX1_planStraighten 12) f = f (.if_icmp .ge 50, 15, 62, 0, 0, 0, 0)) ∧
  (∀ f : mE → Prop, w_o (mft MX1_planStraighten 15) f = f (.aload_n 1, 16, 1, 0, 0, 0, 0)) ∧
  (∀ f : mE → Prop, w_o (mft MX1_planStraighten 16) f = f (.getfield 48, 19, 0, 0, 0, 0, 0)) ∧
  (∀ f : mE → Prop, w_o (mft MX1_planStraighten 19) f = f (.iload_n 2, 20, 2, 0, 0, 0, 0)) ∧
  (∀ f : mE → Prop, w_o (mft MX1_planStraighten 20) f = f (.iaload, 21, 0, 0, 0, 0, 0)) ∧
  (∀ f : mE → Prop, w_o (mft MX1_planStraighten 21) f = f (.ifCond .ne 41, 24, 62, 0, 0, 0, 0)) ∧
  (∀ f : mE → Prop, w_o (mft MX1_planStraighten 24) f = f (.aload_n 1, 25, 1, 0, 0, 0, 0)) ∧
  (∀ f : mE → Prop, w_o (mft MX1_planStraighten 25) f = f (.getfield 48, 28, 0, 0, 0, 0, 0)) ∧
  (∀ f : mE → Prop, w_o (mft MX1_planStraighten 28) f = f (.iload_n 2, 29, 2, 0, 0, 0, 0)) ∧
  (∀ f : mE → Prop, w_o (mft MX1_planStraighten 29) f = f (.iconst 1, 30, 0, 0, 0, (1), 0)) ∧
  (∀ f : mE → Prop, w_o (mft MX1_planStraighten 30) f = f (.iadd, 31, 0, 0, 0, 0, 0)) ∧
  (∀ f : mE → Prop, w_o (mft MX1_planStraighten 31) f = f (.iaload, 32, 0, 0, 0, 0, 0)) ∧
  (∀ f : mE → Prop, w_o (mft MX1_planStraighten 32) f = f (.iconst 2, 33, 0, 0, 0, (2), 0)) ∧
  (∀ f : mE → Prop, w_o (mft MX1_planStraighten 33) f = f (.if_icmp .ne 29, 36, 62, 0, 0, 0, 0)) ∧
  (∀ f : mE → Prop, w_o (mft MX1_planStraighten 36) f = f (.aload_n 1, 37, 1, 0, 0, 0, 0)) ∧
  (∀ f : mE → Prop, w_o (mft MX1_planStraighten 37) f = f (.getfield 49, 40, 0, 1, 0, 0, 0)) ∧
  (∀ f : mE → Prop, w_o (mft MX1_planStraighten 40) f = f (.iload_n 2, 41, 2, 0, 0, 0, 0)) ∧
  (∀ f : mE → Prop, w_o (mft MX1_planStraighten 41) f = f (.iaload, 42, 0, 0, 0, 0, 0)) ∧
  (∀ f : mE → Prop, w_o (mft MX1_planStraighten 42) f = f (.aload_n 1, 43, 1, 0, 0, 0, 0)) ∧
  (∀ f : mE → Prop, w_o (mft MX1_planStraighten 43) f = f (.getfield 49, 46, 0, 1, 0, 0, 0)) ∧
  (∀ f : mE → Prop, w_o (mft MX1_planStraighten 46) f = f (.iload_n 2, 47, 2, 0, 0, 0, 0)) ∧
  (∀ f : mE → Prop, w_o (mft MX1_planStraighten 47) f = f (.iconst 1, 48, 0, 0, 0, (1), 0)) ∧
  (∀ f : mE → Prop, w_o (mft MX1_planStraighten 48) f = f (.iadd, 49, 0, 0, 0, 0, 0)) ∧
  (∀ f : mE → Prop, w_o (mft MX1_planStraighten 49) f = f (.iaload, 50, 0, 0, 0, 0, 0)) ∧
  (∀ f : mE → Prop, w_o (mft MX1_planStraighten 50) f = f (.isub, 51, 0, 0, 0, 0, 0)) ∧
  (∀ f : mE → Prop, w_o (mft MX1_planStraighten 51) f = f (.invokestatic 69, 54, 1012, 0, 0, 0, 0)) ∧
  (∀ f : mE → Prop, w_o (mft MX1_planStraighten 54) f = f (.iconst 1, 55, 0, 0, 0, (1), 0)) ∧
  (∀ f : mE → Prop, w_o (mft MX1_planStraighten 55) f = f (.if_icmp .ne 7, 58, 62, 0, 0, 0, 0)) ∧
  (∀ f : mE → Prop, w_o (mft MX1_planStraighten 58) f = f (.iconst 1, 59, 0, 0, 0, (1), 0)) ∧
  (∀ f : mE → Prop, w_o (mft MX1_planStraighten 59) f = f (.goto 4, 62, 63, 0, 0, 0, 0)) ∧
  (∀ f : mE → Prop, w_o (mft MX1_planStraighten 62) f = f (.iconst 0, 63, 0, 0, 0, (0), 0)) ∧
  (∀ f : mE → Prop, w_o (mft MX1_planStraighten 63) f = f (.ireturn, 64, 0, 0, 1, 0, 0)) := ⟨fun _ => rfl, fun _ => rfl, fun _ => rfl, fun _ => rfl, fun _ => rfl, fun _ => rfl, fun _ => rfl, fun _ => rfl, fun _ => rfl, fun _ => rfl, fun _ => rfl, fun _ => rfl, fun _ => rfl, fun _ => rfl, fun _ => rfl, fun _ => rfl, fun _ => rfl, fun _ => rfl, fun _ => rfl, fun _ => rfl, fun _ => rfl, fun _ => rfl, fun _ => rfl, fun _ => rfl, fun _ => rfl, fun _ => rfl, fun _ => rfl, fun _ => rfl, fun _ => rfl, fun _ => rfl, fun _ => rfl, fun _ => rfl, fun _ => rfl, fun _ => rfl, fun _ => rfl, fun _ => rfl, fun _ => rfl, fun _ => rfl, fun _ => rfl, fun _ => rfl⟩
set_option maxRecDepth 100000 in
theorem gd_X1_planStraighten : mGood MX1_planStraighten := ⟨by decide +kernel, by decide +kernel, by decide +kernel⟩
set_option maxRecDepth 100000 in
set_option maxHeartbeats 4000000 in
theorem ft_X1_hasKinds : (∀ f : mE → Prop, w_o (mft MX1_hasKinds 0) f = f (.iload_n 1, 1, 1, 0, 0, 0, 0)) ∧
  (∀ f : mE → Prop, w_o (mft MX1_hasKinds 1) f = f (.iconst 2, 2, 0, 0, 0, (2), 0)) ∧
  (∀ f : mE → Prop, w_o (mft MX1_hasKinds 2) f = f (.iadd, 3, 0, 0, 0, 0, 0)) ∧
  (∀ f : mE → Prop, w_o (mft MX1_hasKinds 3) f = f (.aload_n 0, 4, 0, 0, 0, 0, 0)) ∧
  (∀ f : mE → Prop, w_o (mft MX1_hasKinds 4) f = f (.getfield 45, 7, 0, 3, 0, 0, 0)) ∧
  (∀ f : mE → Prop, w_o (mft MX1_hasKinds 7) f = f (.if_icmp .ge 42, 10, 49, 0, 0, 0, 0)) ∧
  (∀ f : mE → Prop, w_o (mft MX1_hasKinds 10) f = f (.aload_n 0, 11, 0, 0, 0, 0, 0)) ∧
  (∀ f : mE → Prop, w_o (mft MX1_hasKinds 11) f = f (.getfield 48, 14, 0, 0, 0, 0, 0)) ∧
  (∀ f : mE → Prop, w_o (mft MX1_hasKinds 14) f = f (.iload_n 1, 15, 1, 0, 0, 0, 0)) ∧
  (∀ f : mE → Prop, w_o (mft MX1_hasKinds 15) f = f (.iaload, 16, 0, 0, 0, 0, 0)) ∧
  (∀ f : mE → Prop, w_o (mft MX1_hasKinds 16) f = f (.iload_n 2, 17, 2, 0, 0, 0, 0)) ∧
  (∀ f : mE → Prop, w_o (mft MX1_hasKinds 17) f = f (.if_icmp .ne 32, 20, 49, 0, 0, 0, 0)) ∧
  (∀ f : mE → Prop, w_o (mft MX1_hasKinds 20) f = f (.aload_n 0, 21, 0, 0, 0, 0, 0)) ∧
  (∀ f : mE → Prop, w_o (mft MX1_hasKinds 21) f = f (.getfield 48, 24, 0, 0, 0, 0, 0)) ∧
  (∀ f : mE → Prop, w_o (mft MX1_hasKinds 24) f = f (.iload_n 1, 25, 1, 0, 0, 0, 0)) ∧
  (∀ f : mE → Prop, w_o (mft MX1_hasKinds 25) f = f (.iconst 1, 26, 0, 0, 0, (1), 0)) ∧
  (∀ f : mE → Prop, w_o (mft MX1_hasKinds 26) f = f (.iadd, 27, 0, 0, 0, 0, 0)) ∧
  (∀ f : mE → Prop, w_o (mft MX1_hasKinds 27) f = f (.iaload, 28, 0, 0, 0, 0, 0)) ∧
  (∀ f : mE → Prop, w_o (mft MX1_hasKinds 28) f = f (.iload_n 3, 29, 3, 0, 0, 0, 0)) ∧
  (∀ f : mE → Prop, w_o (mft MX1_hasKinds 29) f = f (.if_icmp .ne 20, 32, 49, 0, 0, 0, 0)) ∧
  (∀ f : mE → Prop, w_o (mft MX1_hasKinds 32) f = f (.aload_n 0, 33, 0, 0, 0, 0, 0)) ∧
  (∀ f : mE → Prop, w_o (mft MX1_hasKinds 33) f = f (.getfield 48, 36, 0, 0, 0, 0, 0)) ∧
  (∀ f : mE → Prop, w_o (mft MX1_hasKinds 36) f = f (.iload_n 1, 37, 1, 0, 0, 0, 0)) ∧
  (∀ f : mE → Prop, w_o (mft MX1_hasKinds 37) f = f (.iconst 2, 38, 0, 0, 0, (2), 0)) ∧
  (∀ f : mE → Prop, w_o (mft MX1_hasKinds 38) f = f (.iadd, 39, 0, 0, 0, 0, 0)) ∧
  (∀ f : mE → Prop, w_o (mft MX1_hasKinds 39) f = f (.iaload, 40, 0, 0, 0, 0, 0)) ∧
  (∀ f : mE → Prop, w_o (mft MX1_hasKinds 40) f = f (.iload 4, 42, 4, 0, 0, 0, 0)) ∧
  (∀ f : mE → Prop, w_o (mft MX1_hasKinds 42) f = f (.if_icmp .ne 7, 45, 49, 0, 0, 0, 0)) ∧
  (∀ f : mE → Prop, w_o (mft MX1_hasKinds 45) f = f (.iconst 1, 46, 0, 0, 0, (1), 0)) ∧
  (∀ f : mE → Prop, w_o (mft MX1_hasKinds 46) f = f (.goto 4, 49, 50, 0, 0, 0, 0)) ∧
  (∀ f : mE → Prop, w_o (mft MX1_hasKinds 49) f = f (.iconst 0, 50, 0, 0, 0, (0), 0)) ∧
  (∀ f : mE → Prop, w_o (mft MX1_hasKinds 50) f = f (.ireturn, 51, 0, 0, 1, 0, 0)) := ⟨fun _ => rfl, fun _ => rfl, fun _ => rfl, fun _ => rfl, fun _ => rfl, fun _ => rfl, fun _ => rfl, fun _ => rfl, fun _ => rfl, fun _ => rfl, fun _ => rfl, fun _ => rfl, fun _ => rfl, fun _ => rfl, fun _ => rfl, fun _ => rfl, fun _ => rfl, fun _ => rfl, fun _ => rfl, fun _ => rfl, fun _ => rfl, fun _ => rfl, fun _ => rfl, fun _ => rfl, fun _ => rfl, fun _ => rfl, fun _ => rfl, fun _ => rfl, fun _ => rfl, fun _ => rfl, fun _ => rfl, fun _ => rfl⟩
set_option maxRecDepth 100000 in
theorem gd_X1_hasKinds : mGood MX1_hasKinds := ⟨by decide +kernel, by decide +kernel, by decide +kernel⟩
set_option maxRecDepth 100000 in
set_option maxHeartbeats 4000000 in
theorem ft_X1_goesThereAndBack : (∀ f : mE → Prop, w_o (mft MX1_goesThereAndBack 0) f = f (.aload_n 0, 1, 0, 0, 0, 0, 0)) ∧
  (∀ f : mE → Prop, w_o (mft MX1_goesThereAndBack 1) f = f (.getfield 49, 4, 0, 1, 0, 0, 0)) ∧
  (∀ f : mE → Prop, w_o (mft MX1_goesThereAndBack 4) f = f (.iload_n 1, 5, 1, 0, 0, 0, 0)) ∧
  (∀ f : mE → Prop, w_o (mft MX1_goesThereAndBack 5) f = f (.iaload, 6, 0, 0, 0, 0, 0)) ∧
  (∀ f : mE → Prop, w_o (mft MX1_goesThereAndBack 6) f = f (.aload_n 0, 7, 0, 0, 0, 0, 0)) ∧
  (∀ f : mE → Prop, w_o (mft MX1_goesThereAndBack 7) f = f (.getfield 49, 10, 0, 1, 0, 0, 0)) ∧
  (∀ f : mE → Prop, w_o (mft MX1_goesThereAndBack 10) f = f (.iload_n 1, 11, 1, 0, 0, 0, 0)) ∧
  (∀ f : mE → Prop, w_o (mft MX1_goesThereAndBack 11) f = f (.iconst 2, 12, 0, 0, 0, (2), 0)) ∧
  (∀ f : mE → Prop, w_o (mft MX1_goesThereAndBack 12) f = f (.iadd, 13, 0, 0, 0, 0, 0)) ∧
  (∀ f : mE → Prop, w_o (mft MX1_goesThereAndBack 13) f = f (.iaload, 14, 0, 0, 0, 0, 0)) ∧
  (∀ f : mE → Prop, w_o (mft MX1_goesThereAndBack 14) f = f (.if_icmp .ne 29, 17, 43, 0, 0, 0, 0)) ∧
  (∀ f : mE → Prop, w_o (mft MX1_goesThereAndBack 17) f = f (.aload_n 0, 18, 0, 0, 0, 0, 0)) ∧
  (∀ f : mE → Prop, w_o (mft MX1_goesThereAndBack 18) f = f (.getfield 49, 21, 0, 1, 0, 0, 0)) ∧
  (∀ f : mE → Prop, w_o (mft MX1_goesThereAndBack 21) f = f (.iload_n 1, 22, 1, 0, 0, 0, 0)) ∧
  (∀ f : mE → Prop, w_o (mft MX1_goesThereAndBack 22) f = f (.iaload, 23, 0, 0, 0, 0, 0)) ∧
  (∀ f : mE → Prop, w_o (mft MX1_goesThereAndBack 23) f = f (.aload_n 0, 24, 0, 0, 0, 0, 0)) ∧
  (∀ f : mE → Prop, w_o (mft MX1_goesThereAndBack 24) f = f (.getfield 49, 27, 0, 1, 0, 0, 0)) ∧
  (∀ f : mE → Prop, w_o (mft MX1_goesThereAndBack 27) f = f (.iload_n 1, 28, 1, 0, 0, 0, 0)) ∧
  (∀ f : mE → Prop, w_o (mft MX1_goesThereAndBack 28) f = f (.iconst 1, 29, 0, 0, 0, (1), 0)) ∧
  (∀ f : mE → Prop, w_o (mft MX1_goesThereAndBack 29) f = f (.iadd, 30, 0, 0, 0, 0, 0)) ∧
  (∀ f : mE → Prop, w_o (mft MX1_goesThereAndBack 30) f = f (.iaload, 31, 0, 0, 0, 0, 0)) ∧
  (∀ f : mE → Prop, w_o (mft MX1_goesThereAndBack 31) f = f (.isub, 32, 0, 0, 0, 0, 0)) ∧
  (∀ f : mE → Prop, w_o (mft MX1_goesThereAndBack 32) f = f (.invokestatic 69, 35, 1012, 0, 0, 0, 0)) ∧
  (∀ f : mE → Prop, w_o (mft MX1_goesThereAndBack 35) f = f (.iconst 1, 36, 0, 0, 0, (1), 0)) ∧
  (∀ f : mE → Prop, w_o (mft MX1_goesThereAndBack 36) f = f (.if_icmp .ne 7, 39, 43, 0, 0, 0, 0)) ∧
  (∀ f : mE → Prop, w_o (mft MX1_goesThereAndBack 39) f = f (.iconst 1, 40, 0, 0, 0, (1), 0)) ∧
  (∀ f : mE → Prop, w_o (mft MX1_goesThereAndBack 40) f = f (.goto 4, 43, 44, 0, 0, 0, 0)) ∧
  (∀ f : mE → Prop, w_o (mft MX1_goesThereAndBack 43) f = f (.iconst 0, 44, 0, 0, 0, (0), 0)) ∧
  (∀ f : mE → Prop, w_o (mft MX1_goesThereAndBack 44) f = f (.ireturn, 45, 0, 0, 1, 0, 0)) := ⟨fun _ => rfl, fun _ => rfl, fun _ => rfl, fun _ => rfl, fun _ => rfl, fun _ => rfl, fun _ => rfl, fun _ => rfl, fun _ => rfl, fun _ => rfl, fun _ => rfl, fun _ => rfl, fun _ => rfl, fun _ => rfl, fun _ => rfl, fun _ => rfl, fun _ => rfl, fun _ => rfl, fun _ => rfl, fun _ => rfl, fun _ => rfl, fun _ => rfl, fun _ => rfl, fun _ => rfl, fun _ => rfl, fun _ => rfl, fun _ => rfl, fun _ => rfl, fun _ => rfl⟩
set_option maxRecDepth 100000 in
theorem gd_X1_goesThereAndBack : mGood MX1_goesThereAndBack := ⟨by decide +kernel, by decide +kernel, by decide +kernel⟩
set_option maxRecDepth 100000 in
set_option maxHeartbeats 4000000 in
theorem ft_X1_planAdd : (∀ f : mE → Prop, w_o (mft MX1_planAdd 0) f = f (.aload_n 0, 1, 0, 0, 0, 0, 0)) ∧
  (∀ f : mE → Prop, w_o (mft MX1_planAdd 1) f = f (.iconst 0, 2, 0, 0, 0, (0), 0)) ∧
  (∀ f : mE → Prop, w_o (mft MX1_planAdd 2) f = f (.invokevirtual 50, 5, 13, 1, 1, 0, 0)) ∧
  (∀ f : mE → Prop, w_o (mft MX1_planAdd 5) f = f (.iload_n 1, 6, 1, 0, 0, 0, 0)) ∧
  (∀ f : mE → Prop, w_o (mft MX1_planAdd 6) f = f (.tableswitch 75 0 2 #[26, 43, 58], 32, 0, 0, 0, 0, 0)) ∧
  (∀ f : mE → Prop, w_o (mft MX1_planAdd 32) f = f (.aload_n 0, 33, 0, 0, 0, 0, 0)) ∧
  (∀ f : mE → Prop, w_o (mft MX1_planAdd 33) f = f (.iconst 0, 34, 0, 0, 0, (0), 0)) ∧
  (∀ f : mE → Prop, w_o (mft MX1_planAdd 34) f = f (.iload_n 2, 35, 2, 0, 0, 0, 0)) ∧
  (∀ f : mE → Prop, w_o (mft MX1_planAdd 35) f = f (.iconst 1, 36, 0, 0, 0, (1), 0)) ∧
  (∀ f : mE → Prop, w_o (mft MX1_planAdd 36) f = f (.iadd, 37, 0, 0, 0, 0, 0)) ∧
  (∀ f : mE → Prop, w_o (mft MX1_planAdd 37) f = f (.iconst 1, 38, 0, 0, 0, (1), 0)) ∧
  (∀ f : mE → Prop, w_o (mft MX1_planAdd 38) f = f (.iload_n 2, 39, 2, 0, 0, 0, 0)) ∧
  (∀ f : mE → Prop, w_o (mft MX1_planAdd 39) f = f (.iconst 2, 40, 0, 0, 0, (2), 0)) ∧
  (∀ f : mE → Prop, w_o (mft MX1_planAdd 40) f = f (.iload_n 2, 41, 2, 0, 0, 0, 0)) ∧
  (∀ f : mE → Prop, w_o (mft MX1_planAdd 41) f = f (.iconst 1, 42, 0, 0, 0, (1), 0)) ∧
  (∀ f : mE → Prop, w_o (mft MX1_planAdd 42) f = f (.iadd, 43, 0, 0, 0, 0, 0)) ∧
  (∀ f : mE → Prop, w_o (mft MX1_planAdd 43) f = f (.invokevirtual 65, 46, 15, 6, 1, 0, 0)) ∧
  (∀ f : mE → Prop, w_o (mft MX1_planAdd 46) f = f (.goto 49, 49, 95, 0, 0, 0, 0)) ∧
  (∀ f : mE → Prop, w_o (mft MX1_planAdd 49) f = f (.aload_n 0, 50, 0, 0, 0, 0, 0)) ∧
  (∀ f : mE → Prop, w_o (mft MX1_planAdd 50) f = f (.iconst 0, 51, 0, 0, 0, (0), 0)) ∧
  (∀ f : mE → Prop, w_o (mft MX1_planAdd 51) f = f (.iload_n 2, 52, 2, 0, 0, 0, 0)) ∧
  (∀ f : mE → Prop, w_o (mft MX1_planAdd 52) f = f (.iconst 1, 53, 0, 0, 0, (1), 0)) ∧
  (∀ f : mE → Prop, w_o (mft MX1_planAdd 53) f = f (.iload_n 2, 54, 2, 0, 0, 0, 0)) ∧
  (∀ f : mE → Prop, w_o (mft MX1_planAdd 54) f = f (.iconst 1, 55, 0, 0, 0, (1), 0)) ∧
  (∀ f : mE → Prop, w_o (mft MX1_planAdd 55) f = f (.iadd, 56, 0, 0, 0, 0, 0)) ∧
  (∀ f : mE → Prop, w_o (mft MX1_planAdd 56) f = f (.iconst 2, 57, 0, 0, 0, (2), 0)) ∧
  (∀ f : mE → Prop, w_o (mft MX1_planAdd 57) f = f (.iload_n 2, 58, 2, 0, 0, 0, 0)) ∧
  (∀ f : mE → Prop, w_o (mft MX1_planAdd 58) f = f (.invokevirtual 65, 61, 15, 6, 1, 0, 0)) ∧
  (∀ f : mE → Prop, w_o (mft MX1_planAdd 61) f = f (.goto 34, 64, 95, 0, 0, 0, 0)) ∧
  (∀ f : mE → Prop, w_o (mft MX1_planAdd 64) f = f (.aload_n 0, 65, 0, 0, 0, 0, 0)) ∧
  (∀ f : mE → Prop, w_o (mft MX1_planAdd 65) f = f (.iconst 0, 66, 0, 0, 0, (0), 0)) ∧
  (∀ f : mE → Prop, w_o (mft MX1_planAdd 66) f = f (.iload_n 2, 67, 2, 0, 0, 0, 0)) ∧
  (∀ f : mE → Prop, w_o (mft MX1_planAdd 67) f = f (.iconst 1, 68, 0, 0, 0, (1), 0)) ∧
  (∀ f : mE → Prop, w_o (mft MX1_planAdd 68) f = f (.iadd, 69, 0, 0, 0, 0, 0)) ∧
  (∀ f : mE → Prop, w_o (mft MX1_planAdd 69) f = f (.invokevirtual 25, 72, 14, 2, 1, 0, 0)) ∧
  (∀ f : mE → Prop, w_o (mft MX1_planAdd 72) f = f (.aload_n 0, 73, 0, 0, 0, 0, 0)) ∧
  (∀ f : mE → Prop, w_o (mft MX1_planAdd 73) f = f (.iconst 2, 74, 0, 0, 0, (2), 0)) ∧
  (∀ f : mE → Prop, w_o (mft MX1_planAdd 74) f = f (.iload_n 2, 75, 2, 0, 0, 0, 0)) ∧
  (∀ f : mE → Prop, w_o (mft MX1_planAdd 75) f = f (.invokevirtual 25, 78, 14, 2, 1, 0, 0)) ∧
  (∀ f : mE → Prop, w_o (mft MX1_planAdd 78) f = f (.goto 17, 81, 95, 0, 0, 0, 0)) ∧
  (∀ f : mE → Prop, w_o (mft MX1_planAdd 81) f = f (.aload_n 0, 82, 0, 0, 0, 0, 0)) ∧
  (∀ f : mE → Prop, w_o (mft MX1_planAdd 82) f = f (.iconst 0, 83, 0, 0, 0, (0), 0)) ∧
  (∀ f : mE → Prop, w_o (mft MX1_planAdd 83) f = f (.iload_n 2, 84, 2, 0, 0, 0, 0)) ∧
  (∀ f : mE → Prop, w_o (mft MX1_planAdd 84) f = f (.invokevirtual 25, 87, 14, 2, 1, 0, 0)) ∧
  (∀ f : mE → Prop, w_o (mft MX1_planAdd 87) f = f (.aload_n 0, 88, 0, 0, 0, 0, 0)) ∧
  (∀ f : mE → Prop, w_o (mft MX1_planAdd 88) f = f (.iconst 2, 89, 0, 0, 0, (2), 0)) ∧
  (∀ f : mE → Prop, w_o (mft MX1_planAdd 89) f = f (.iload_n 2, 90, 2, 0, 0, 0, 0)) ∧
  (∀ f : mE → Prop, w_o (mft MX1_planAdd 90) f = f (.iconst 1, 91, 0, 0, 0, (1), 0)) ∧
  (∀ f : mE → Prop, w_o (mft MX1_planAdd 91) f = f (.iadd, 92, 0, 0, 0, 0, 0)) ∧
  (∀ f : mE → Prop, w_o (mft MX1_planAdd 92) f = f (.invokevirtual 25, 95, 14, 2, 1, 0, 0)) ∧
  (∀ f : mE → Prop, w_o (mft MX1_planAdd 95) f = f (.return_, 96, 0, 0, 0, 0, 0)) := ⟨fun _ => rfl, fun _ => rfl, fun _ => rfl, fun _ => rfl, fun _ => rfl, fun _ => rfl, fun _ => rfl, fun _ => rfl, fun _ => rfl, fun _ => rfl, fun _ => rfl, fun _ => rfl, fun _ => rfl, fun _ => rfl, fun _ => rfl, fun _ => rfl, fun _ => rfl, fun _ => rfl, fun _ => rfl, fun _ => rfl, fun _ => rfl, fun _ => rfl, fun _ => rfl, fun _ => rfl, fun _ => rfl, fun _ => rfl, fun _ => rfl, fun _ => rfl, fun _ => rfl, fun _ => rfl, fun _ => rfl, fun _ => rfl, fun _ => rfl, fun _ => rfl, fun _ => rfl, fun _ => rfl, fun _ => rfl, fun _ => rfl, fun _ => rfl, fun _ => rfl, fun _ => rfl, fun _ => rfl, fun _ => rfl, fun _ => rfl, fun _ => rfl, fun _ => rfl, fun _ => rfl, fun _ => rfl, fun _ => rfl, fun _ => rfl, fun _ => rfl⟩
set_option maxRecDepth 100000 in
theorem gd_X1_planAdd : mGood MX1_planAdd := ⟨by decide +kernel, by decide +kernel, by decide +kernel⟩
set_option maxRecDepth 100000 in
set_option maxHeartbeats 4000000 in
theorem ft_X1_planPush : (∀ f : mE → Prop, w_o (mft MX1_planPush 0) f = f (.aload_n 0, 1, 0, 0, 0, 0, 0)) ∧
  (∀ f : mE → Prop, w_o (mft MX1_planPush 1) f = f (.iconst 1, 2, 0, 0, 0, (1), 0)) ∧
  (∀ f : mE → Prop, w_o (mft MX1_planPush 2) f = f (.invokevirtual 50, 5, 13, 1, 1, 0, 0)) ∧
  (∀ f : mE → Prop, w_o (mft MX1_planPush 5) f = f (.aload_n 1, 6, 1, 0, 0, 0, 0)) ∧
  (∀ f : mE → Prop, w_o (mft MX1_planPush 6) f = f (.getfield 49, 9, 0, 1, 0, 0, 0)) ∧
  (∀ f : mE → Prop, w_o (mft MX1_planPush 9) f = f (.iload_n 3, 10, 3, 0, 0, 0, 0)) ∧
  (∀ f : mE → Prop, w_o (mft MX1_planPush 10) f = f (.iaload, 11, 0, 0, 0, 0, 0)) ∧
  (∀ f : mE → Prop, w_o (mft MX1_planPush 11) f = f (.istore 4, 13, 4, 0, 0, 0, 0)) ∧
  (∀ f : mE → Prop, w_o (mft MX1_planPush 13) f = f (.aload_n 1, 14, 1, 0, 0, 0, 0)) ∧
  (∀ f : mE → Prop, w_o (mft MX1_planPush 14) f = f (.getfield 48, 17, 0, 0, 0, 0, 0)) ∧
  (∀ f : mE → Prop, w_o (mft MX1_planPush 17) f = f (.iload_n 3, 18, 3, 0, 0, 0, 0)) ∧
  (∀ f : mE → Prop, w_o (mft MX1_planPush 18) f = f (.iaload, 19, 0, 0, 0, 0, 0)) ∧
  (∀ f : mE → Prop, w_o (mft MX1_planPush 19) f = f (.lookupswitch 53 #[(0, 25), (2, 39)], 44, 0, 0, 0, 0, 0)) ∧
  (∀ f : mE → Prop, w_o (mft MX1_planPush 44) f = f (.aload_n 0, 45, 0, 0, 0, 0, 0)) ∧
  (∀ f : mE → Prop, w_o (mft MX1_planPush 45) f = f (.iload_n 2, 46, 2, 0, 0, 0, 0)) ∧
  (∀ f : mE → Prop, w_o (mft MX1_planPush 46) f = f (.iload 4, 48, 4, 0, 0, 0, 0)) ∧
  (∀ f : mE → Prop, w_o (mft MX1_planPush 48) f = f (.aload_n 1, 49, 1, 0, 0, 0, 0)) ∧
  (∀ f : mE → Prop, w_o (mft MX1_planPush 49) f = f (.getfield 74, 52, 0, 2, 0, 0, 0)) ∧
  (∀ f : mE → Prop, w_o (mft MX1_planPush 52) f = f (.iload_n 3, 53, 3, 0, 0, 0, 0)) ∧
  (∀ f : mE → Prop, w_o (mft MX1_planPush 53) f = f (.iaload, 54, 0, 0, 0, 0, 0)) ∧
  (∀ f : mE → Prop, w_o (mft MX1_planPush 54) f = f (.invokevirtual 77, 57, 26, 3, 1, 0, 0)) ∧
  (∀ f : mE → Prop, w_o (mft MX1_planPush 57) f = f (.ireturn, 58, 0, 0, 1, 0, 0)) ∧
  (∀ f : mE → Prop, w_o (mft MX1_planPush 58) f = f (.aload_n 0, 59, 0, 0, 0, 0, 0)) ∧
  (∀ f : mE → Prop, w_o (mft MX1_planPush 59) f = f (.iload_n 2, 60, 2, 0, 0, 0, 0)) ∧
  (∀ f : mE → Prop, w_o (mft MX1_planPush 60) f = f (.iload 4, 62, 4, 0, 0, 0, 0)) ∧
  (∀ f : mE → Prop, w_o (mft MX1_planPush 62) f = f (.aload_n 1, 63, 1, 0, 0, 0, 0)) ∧
  (∀ f : mE → Prop, w_o (mft MX1_planPush 63) f = f (.getfield 74, 66, 0, 2, 0, 0, 0)) ∧
  (∀ f : mE → Prop, w_o (mft MX1_planPush 66) f = f (.iload_n 3, 67, 3, 0, 0, 0, 0)) ∧
  (∀ f : mE → Prop, w_o (mft MX1_planPush 67) f = f (.iaload, 68, 0, 0, 0, 0, 0)) ∧
  (∀ f : mE → Prop, w_o (mft MX1_planPush 68) f = f (.invokevirtual 81, 71, 27, 3, 1, 0, 0)) ∧
  (∀ f : mE → Prop, w_o (mft MX1_planPush 71) f = f (.ireturn, 72, 0, 0, 1, 0, 0)) ∧
  (∀ f : mE → Prop, w_o (mft MX1_planPush 72) f = f (.iconst 0, 73, 0, 0, 0, (0), 0)) ∧
  (∀ f : mE → Prop, w_o (mft MX1_planPush 73) f = f (.ireturn, 74, 0, 0, 1, 0, 0)) := ⟨fun _ => rfl, fun _ => rfl, fun _ => rfl, fun _ => rfl, fun _ => rfl, fun _ => rfl, fun _ => rfl, fun _ => rfl, fun _ => rfl, fun _ => rfl, fun _ => rfl, fun _ => rfl, fun _ => rfl, fun _ => rfl, fun _ => rfl, fun _ => rfl, fun _ => rfl, fun _ => rfl, fun _ => rfl, fun _ => rfl, fun _ => rfl, fun _ => rfl, fun _ => rfl, fun _ => rfl, fun _ => rfl, fun _ => rfl, fun _ => rfl, fun _ => rfl, fun _ => rfl, fun _ => rfl, fun _ => rfl, fun _ => rfl, fun _ => rfl⟩
set_option maxRecDepth 100000 in
theorem gd_X1_planPush : mGood MX1_planPush := ⟨by decide +kernel, by decide +kernel, by decide +kernel⟩
set_option maxRecDepth 100000 in
set_option maxHeartbeats 4000000 in
theorem ft_X1_planBirthPush : (∀ f : mE → Prop, w_o (mft MX1_planBirthPush 0) f = f (.iload_n 1, 1, 1, 0, 0, 0, 0)) ∧
  (∀ f : mE → Prop, w_o (mft MX1_planBirthPush 1) f = f (.ifCond .ne 28, 4, 29, 0, 0, 0, 0)) ∧
  (∀ f : mE → Prop, w_o (mft MX1_planBirthPush 4) f = f (.aload_n 0, 5, 0, 0, 0, 0, 0)) ∧
  (∀ f : mE → Prop, w_o (mft MX1_planBirthPush 5) f = f (.iconst 0, 6, 0, 0, 0, (0), 0)) ∧
  (∀ f : mE → Prop, w_o (mft MX1_planBirthPush 6) f = f (.iload_n 2, 7, 2, 0, 0, 0, 0)) ∧
  (∀ f : mE → Prop, w_o (mft MX1_planBirthPush 7) f = f (.iconst 1, 8, 0, 0, 0, (1), 0)) ∧
  (∀ f : mE → Prop, w_o (mft MX1_planBirthPush 8) f = f (.isub, 9, 0, 0, 0, 0, 0)) ∧
  (∀ f : mE → Prop, w_o (mft MX1_planBirthPush 9) f = f (.iconst 1, 10, 0, 0, 0, (1), 0)) ∧
  (∀ f : mE → Prop, w_o (mft MX1_planBirthPush 10) f = f (.iload_n 2, 11, 2, 0, 0, 0, 0)) ∧
  (∀ f : mE → Prop, w_o (mft MX1_planBirthPush 11) f = f (.iconst 1, 12, 0, 0, 0, (1), 0)) ∧
  (∀ f : mE → Prop, w_o (mft MX1_planBirthPush 12) f = f (.iload_n 2, 13, 2, 0, 0, 0, 0)) ∧
  (∀ f : mE → Prop, w_o (mft MX1_planBirthPush 13) f = f (.iconst 1, 14, 0, 0, 0, (1), 0)) ∧
  (∀ f : mE → Prop, w_o (mft MX1_planBirthPush 14) f = f (.isub, 15, 0, 0, 0, 0, 0)) ∧
  (∀ f : mE → Prop, w_o (mft MX1_planBirthPush 15) f = f (.invokevirtual 65, 18, 15, 6, 1, 0, 0)) ∧
  (∀ f : mE → Prop, w_o (mft MX1_planBirthPush 18) f = f (.iload_n 2, 19, 2, 0, 0, 0, 0)) ∧
  (∀ f : mE → Prop, w_o (mft MX1_planBirthPush 19) f = f (.iconst 1, 20, 0, 0, 0, (1), 0)) ∧
  (∀ f : mE → Prop, w_o (mft MX1_planBirthPush 20) f = f (.if_icmp .lt 7, 23, 27, 0, 0, 0, 0)) ∧
  (∀ f : mE → Prop, w_o (mft MX1_planBirthPush 23) f = f (.iconst 1, 24, 0, 0, 0, (1), 0)) ∧
  (∀ f : mE → Prop, w_o (mft MX1_planBirthPush 24) f = f (.goto 4, 27, 28, 0, 0, 0, 0)) ∧
  (∀ f : mE → Prop, w_o (mft MX1_planBirthPush 27) f = f (.iconst 0, 28, 0, 0, 0, (0), 0)) ∧
  (∀ f : mE → Prop, w_o (mft MX1_planBirthPush 28) f = f (.ireturn, 29, 0, 0, 1, 0, 0)) ∧
  (∀ f : mE → Prop, w_o (mft MX1_planBirthPush 29) f = f (.aload_n 0, 30, 0, 0, 0, 0, 0)) ∧
  (∀ f : mE → Prop, w_o (mft MX1_planBirthPush 30) f = f (.iconst 0, 31, 0, 0, 0, (0), 0)) ∧
  (∀ f : mE → Prop, w_o (mft MX1_planBirthPush 31) f = f (.iload_n 2, 32, 2, 0, 0, 0, 0)) ∧
  (∀ f : mE → Prop, w_o (mft MX1_planBirthPush 32) f = f (.iconst 1, 33, 0, 0, 0, (1), 0)) ∧
  (∀ f : mE → Prop, w_o (mft MX1_planBirthPush 33) f = f (.iadd, 34, 0, 0, 0, 0, 0)) ∧
  (∀ f : mE → Prop, w_o (mft MX1_planBirthPush 34) f = f (.iconst 1, 35, 0, 0, 0, (1), 0)) ∧
  (∀ f : mE → Prop, w_o (mft MX1_planBirthPush 35) f = f (.iload_n 2, 36, 2, 0, 0, 0, 0)) ∧
  (∀ f : mE → Prop, w_o (mft MX1_planBirthPush 36) f = f (.iconst 1, 37, 0, 0, 0, (1), 0)) ∧
  (∀ f : mE → Prop, w_o (mft MX1_planBirthPush 37) f = f (.iload_n 2, 38, 2, 0, 0, 0, 0)) ∧
  (∀ f : mE → Prop, w_o (mft MX1_planBirthPush 38) f = f (.iconst 1, 39, 0, 0, 0, (1), 0)) ∧
  (∀ f : mE → Prop, w_o (mft MX1_planBirthPush 39) f = f (.iadd, 40, 0, 0, 0, 0, 0)) ∧
  (∀ f : mE → Prop, w_o (mft MX1_planBirthPush 40) f = f (.invokevirtual 65, 43, 15, 6, 1, 0, 0)) ∧
  (∀ f : mE → Prop, w_o (mft MX1_planBirthPush 43) f = f (.iload_n 2, 44, 2, 0, 0, 0, 0)) ∧
  (∀ f : mE → Prop, w_o (mft MX1_planBirthPush 44) f = f (.iload_n 3, 45, 3, 0, 0, 0, 0)) ∧
  (∀ f : mE → Prop, w_o (mft MX1_planBirthPush 45) f = f (.if_icmp .ge 7, 48, 52, 0, 0, 0, 0)) ∧
  (∀ f : mE → Prop, w_o (mft MX1_planBirthPush 48) f = f (.iconst 1, 49, 0, 0, 0, (1), 0)) ∧
  (∀ f : mE → Prop, w_o (mft MX1_planBirthPush 49) f = f (.goto 4, 52, 53, 0, 0, 0, 0)) ∧
  (∀ f : mE → Prop, w_o (mft MX1_planBirthPush 52) f = f (.iconst 0, 53, 0, 0, 0, (0), 0)) ∧
  (∀ f : mE → Prop, w_o (mft MX1_planBirthPush 53) f = f (.ireturn, 54, 0, 0, 1, 0, 0)) := ⟨fun _ => rfl, fun _ => rfl, fun _ => rfl, fun _ => rfl, fun _ => rfl, fun _ => rfl, fun _ => rfl, fun _ => rfl, fun _ => rfl, fun _ => rfl, fun _ => rfl, fun _ => rfl, fun _ => rfl, fun _ => rfl, fun _ => rfl, fun _ => rfl, fun _ => rfl, fun _ => rfl, fun _ => rfl, fun _ => rfl, fun _ => rfl, fun _ => rfl, fun _ => rfl, fun _ => rfl, fun _ => rfl, fun _ => rfl, fun _ => rfl, fun _ => rfl, fun _ => rfl, fun _ => rfl, fun _ => rfl, fun _ => rfl, fun _ => rfl, fun _ => rfl, fun _ => rfl, fun _ => rfl, fun _ => rfl, fun _ => rfl, fun _ => rfl, fun _ => rfl⟩
set_option maxRecDepth 100000 in
theorem gd_X1_planBirthPush : mGood MX1_planBirthPush := ⟨by decide +kernel, by decide +kernel, by decide +kernel⟩
set_option maxRecDepth 100000 in
set_option maxHeartbeats 4000000 in
theorem ft_X1_planDeathPush : (∀ f : mE → Prop, w_o (mft MX1_planDeathPush 0) f = f (.iload_n 1, 1, 1, 0, 0, 0, 0)) ∧
  (∀ f : mE → Prop, w_o (mft MX1_planDeathPush 1) f = f (.ifCond .ne 28, 4, 29, 0, 0, 0, 0)) ∧
  (∀ f : mE → Prop, w_o (mft MX1_planDeathPush 4) f = f (.aload_n 0, 5, 0, 0, 0, 0, 0)) ∧
  (∀ f : mE → Prop, w_o (mft MX1_planDeathPush 5) f = f (.iconst 1, 6, 0, 0, 0, (1), 0)) ∧
  (∀ f : mE → Prop, w_o (mft MX1_planDeathPush 6) f = f (.iload_n 2, 7, 2, 0, 0, 0, 0)) ∧
  (∀ f : mE → Prop, w_o (mft MX1_planDeathPush 7) f = f (.iconst 1, 8, 0, 0, 0, (1), 0)) ∧
  (∀ f : mE → Prop, w_o (mft MX1_planDeathPush 8) f = f (.isub, 9, 0, 0, 0, 0, 0)) ∧
  (∀ f : mE → Prop, w_o (mft MX1_planDeathPush 9) f = f (.iconst 1, 10, 0, 0, 0, (1), 0)) ∧
  (∀ f : mE → Prop, w_o (mft MX1_planDeathPush 10) f = f (.iload_n 2, 11, 2, 0, 0, 0, 0)) ∧
  (∀ f : mE → Prop, w_o (mft MX1_planDeathPush 11) f = f (.iconst 2, 12, 0, 0, 0, (2), 0)) ∧
  (∀ f : mE → Prop, w_o (mft MX1_planDeathPush 12) f = f (.iload_n 2, 13, 2, 0, 0, 0, 0)) ∧
  (∀ f : mE → Prop, w_o (mft MX1_planDeathPush 13) f = f (.iconst 1, 14, 0, 0, 0, (1), 0)) ∧
  (∀ f : mE → Prop, w_o (mft MX1_planDeathPush 14) f = f (.isub, 15, 0, 0, 0, 0, 0)) ∧
  (∀ f : mE → Prop, w_o (mft MX1_planDeathPush 15) f = f (.invokevirtual 65, 18, 15, 6, 1, 0, 0)) ∧
  (∀ f : mE → Prop, w_o (mft MX1_planDeathPush 18) f = f (.iload_n 2, 19, 2, 0, 0, 0, 0)) ∧
  (∀ f : mE → Prop, w_o (mft MX1_planDeathPush 19) f = f (.iconst 1, 20, 0, 0, 0, (1), 0)) ∧
  (∀ f : mE → Prop, w_o (mft MX1_planDeathPush 20) f = f (.if_icmp .lt 7, 23, 27, 0, 0, 0, 0)) ∧
  (∀ f : mE → Prop, w_o (mft MX1_planDeathPush 23) f = f (.iconst 1, 24, 0, 0, 0, (1), 0)) ∧
  (∀ f : mE → Prop, w_o (mft MX1_planDeathPush 24) f = f (.goto 4, 27, 28, 0, 0, 0, 0)) ∧
  (∀ f : mE → Prop, w_o (mft MX1_planDeathPush 27) f = f (.iconst 0, 28, 0, 0, 0, (0), 0)) ∧
  (∀ f : mE → Prop, w_o (mft MX1_planDeathPush 28) f = f (.ireturn, 29, 0, 0, 1, 0, 0)) ∧
  (∀ f : mE → Prop, w_o (mft MX1_planDeathPush 29) f = f (.aload_n 0, 30, 0, 0, 0, 0, 0)) ∧
  (∀ f : mE → Prop, w_o (mft MX1_planDeathPush 30) f = f (.iconst 1, 31, 0, 0, 0, (1), 0)) ∧
  (∀ f : mE → Prop, w_o (mft MX1_planDeathPush 31) f = f (.iload_n 2, 32, 2, 0, 0, 0, 0)) ∧
  (∀ f : mE → Prop, w_o (mft MX1_planDeathPush 32) f = f (.iconst 1, 33, 0, 0, 0, (1), 0)) ∧
  (∀ f : mE → Prop, w_o (mft MX1_planDeathPush 33) f = f (.iadd, 34, 0, 0, 0, 0, 0)) ∧
  (∀ f : mE → Prop, w_o (mft MX1_planDeathPush 34) f = f (.iconst 1, 35, 0, 0, 0, (1), 0)) ∧
  (∀ f : mE → Prop, w_o (mft MX1_planDeathPush 35) f = f (.iload_n 2, 36, 2, 0, 0, 0, 0)) ∧
  (∀ f : mE → Prop, w_o (mft MX1_planDeathPush 36) f = f (.iconst 2, 37, 0, 0, 0, (2), 0)) ∧
  (∀ f : mE → Prop, w_o (mft MX1_planDeathPush 37) f = f (.iload_n 2, 38, 2, 0, 0, 0, 0)) ∧
  (∀ f : mE → Prop, w_o (mft MX1_planDeathPush 38) f = f (.iconst 1, 39, 0, 0, 0, (1), 0)) ∧
  (∀ f : mE → Prop, w_o (mft MX1_planDeathPush 39) f = f (.iadd, 40, 0, 0, 0, 0, 0)) ∧
  (∀ f : mE → Prop, w_o (mft MX1_planDeathPush 40) f = f (.invokevirtual 65, 43, 15, 6, 1, 0, 0)) ∧
  (∀ f : mE → Prop, w_o (mft MX1_planDeathPush 43) f = f (.iload_n 2, 44, 2, 0, 0, 0, 0)) ∧
  (∀ f : mE → Prop, w_o (mft MX1_planDeathPush 44) f = f (.iconst 2, 45, 0, 0, 0, (2), 0)) ∧
  (∀ f : mE → Prop, w_o (mft MX1_planDeathPush 45) f = f (.iadd, 46, 0, 0, 0, 0, 0)) ∧
  (∀ f : mE → Prop, w_o (mft MX1_planDeathPush 46) f = f (.iload_n 3, 47, 3, 0, 0, 0, 0)) ∧
  (∀ f : mE → Prop, w_o (mft MX1_planDeathPush 47) f = f (.if_icmp .ge 7, 50, 54, 0, 0, 0, 0)) ∧
  (∀ f : mE → Prop, w_o (mft MX1_planDeathPush 50) f = f (.iconst 1, 51, 0, 0, 0, (1), 0)) ∧
  (∀ f : mE → Prop, w_o (mft MX1_planDeathPush 51) f = f (.goto 4, 54, 55, 0, 0, 0, 0)) ∧
  (∀ f : mE → Prop, w_o (mft MX1_planDeathPush 54) f = f (.iconst 0, 55, 0, 0, 0, (0), 0)) ∧
  (∀ f : mE → Prop, w_o (mft MX1_planDeathPush 55) f = f (.ireturn, 56, 0, 0, 1, 0, 0)) := ⟨fun _ => rfl, fun _ => rfl, fun _ => rfl, fun _ => rfl, fun _ => rfl, fun _ => rfl, fun _ => rfl, fun _ => rfl, fun _ => rfl, fun _ => rfl, fun _ => rfl, fun _ => rfl, fun _ => rfl, fun _ => rfl, fun _ => rfl, fun _ => rfl, fun _ => rfl, fun _ => rfl, fun _ => rfl, fun _ => rfl, fun _ => rfl, fun _ => rfl, fun _ => rfl, fun _ => rfl, fun _ => rfl, fun _ => rfl, fun _ => rfl, fun _ => rfl, fun _ => rfl, fun _ => rfl, fun _ => rfl, fun _ => rfl, fun _ => rfl, fun _ => rfl, fun _ => rfl, fun _ => rfl, fun _ => rfl, fun _ => rfl, fun _ => rfl, fun _ => rfl, fun _ => rfl, fun _ => rfl⟩
set_option maxRecDepth 100000 in
theorem gd_X1_planDeathPush : mGood MX1_planDeathPush := ⟨by decide +kernel, by decide +kernel, by decide +kernel⟩
set_option maxRecDepth 100000 in
set_option maxHeartbeats 4000000 in
theorem ft_X2_init : (∀ f : mE → Prop, w_o (mft MX2_init 0) f = f (.aload_n 0, 1, 0, 0, 0, 0, 0)) ∧
  (∀ f : mE → Prop, w_o (mft MX2_init 1) f = f (.invokespecial 3, 4, 1001, 0, 0, 0, 0)) ∧
  (∀ f : mE → Prop, w_o (mft MX2_init 4) f = f (.aload_n 0, 5, 0, 0, 0, 0, 0)) ∧
  (∀ f : mE → Prop, w_o (mft MX2_init 5) f = f (.bipush 62, 7, 0, 0, 0, (62), 0)) ∧
  (∀ f : mE → Prop, w_o (mft MX2_init 7) f = f (.newarray .int, 9, 0, 0, 0, 0, 0)) ∧
  (∀ f : mE → Prop, w_o (mft MX2_init 9) f = f (.putfield 9, 12, 2, 0, 2, 0, 0)) ∧
  (∀ f : mE → Prop, w_o (mft MX2_init 12) f = f (.aload_n 0, 13, 0, 0, 0, 0, 0)) ∧
  (∀ f : mE → Prop, w_o (mft MX2_init 13) f = f (.iconst (-1), 14, 0, 0, 0, (-1), 0)) ∧
  (∀ f : mE → Prop, w_o (mft MX2_init 14) f = f (.putfield 15, 17, 2, 1, 0, 0, 0)) ∧
  (∀ f : mE → Prop, w_o (mft MX2_init 17) f = f (.aload_n 0, 18, 0, 0, 0, 0, 0)) ∧
  (∀ f : mE → Prop, w_o (mft MX2_init 18) f = f (.iconst 0, 19, 0, 0, 0, (0), 0)) ∧
  (∀ f : mE → Prop, w_o (mft MX2_init 19) f = f (.putfield 19, 22, 2, 2, 0, 0, 0)) ∧
  (∀ f : mE → Prop, w_o (mft MX2_init 22) f = f (.return_, 23, 0, 0, 0, 0, 0)) := ⟨fun _ => rfl, fun _ => rfl, fun _ => rfl, fun _ => rfl, fun _ => rfl, fun _ => rfl, fun _ => rfl, fun _ => rfl, fun _ => rfl, fun _ => rfl, fun _ => rfl, fun _ => rfl, fun _ => rfl⟩
set_option maxRecDepth 100000 in
theorem gd_X2_init : mGood MX2_init := ⟨by decide +kernel, by decide +kernel, by decide +kernel⟩
set_option maxRecDepth 100000 in
set_option maxHeartbeats 4000000 in
theorem ft_X2_renew : (∀ f : mE → Prop, w_o (mft MX2_renew 0) f = f (.aload_n 0, 1, 0, 0, 0, 0, 0)) ∧
  (∀ f : mE → Prop, w_o (mft MX2_renew 1) f = f (.iload_n 1, 2, 1, 0, 0, 0, 0)) ∧
  (∀ f : mE → Prop, w_o (mft MX2_renew 2) f = f (.putfield 15, 5, 2, 1, 0, 0, 0)) ∧
  (∀ f : mE → Prop, w_o (mft MX2_renew 5) f = f (.aload_n 0, 6, 0, 0, 0, 0, 0)) ∧
  (∀ f : mE → Prop, w_o (mft MX2_renew 6) f = f (.iload_n 2, 7, 2, 0, 0, 0, 0)) ∧
  (∀ f : mE → Prop, w_o (mft MX2_renew 7) f = f (.putfield 19, 10, 2, 2, 0, 0, 0)) ∧
  (∀ f : mE → Prop, w_o (mft MX2_renew 10) f = f (.iconst 0, 11, 0, 0, 0, (0), 0)) ∧
  (∀ f : mE → Prop, w_o (mft MX2_renew 11) f = f (.istore_n 3, 12, 3, 0, 0, 0, 0)) ∧
  (∀ f : mE → Prop, w_o (mft MX2_renew 12) f = f (.iload_n 3, 13, 3, 0, 0, 0, 0)) ∧
  (∀ f : mE → Prop, w_o (mft MX2_renew 13) f = f (.bipush 62, 15, 0, 0, 0, (62), 0)) ∧
  (∀ f : mE → Prop, w_o (mft MX2_renew 15) f = f (.if_icmp .ge 16, 18, 31, 0, 0, 0, 0)) ∧
  (∀ f : mE → Prop, w_o (mft MX2_renew 18) f = f (.aload_n 0, 19, 0, 0, 0, 0, 0)) ∧
  (∀ f : mE → Prop, w_o (mft MX2_renew 19) f = f (.getfield 9, 22, 2, 0, 0, 0, 0)) ∧
  (∀ f : mE → Prop, w_o (mft MX2_renew 22) f = f (.iload_n 3, 23, 3, 0, 0, 0, 0)) ∧
  (∀ f : mE → Prop, w_o (mft MX2_renew 23) f = f (.iconst 0, 24, 0, 0, 0, (0), 0)) ∧
  (∀ f : mE → Prop, w_o (mft MX2_renew 24) f = f (.iastore, 25, 0, 0, 0, 0, 0)) ∧
  (∀ f : mE → Prop, w_o (mft MX2_renew 25) f = f (.iinc 3 1, 28, 3, 0, 0, (1), 0)) ∧
  (∀ f : mE → Prop, w_o (mft MX2_renew 28) f = f (.goto (-16), 31, 12, 0, 0, 0, 0)) ∧
  (∀ f : mE → Prop, w_o (mft MX2_renew 31) f = f (.return_, 32, 0, 0, 0, 0, 0)) := ⟨fun _ => rfl, fun _ => rfl, fun _ => rfl, fun _ => rfl, fun _ => rfl, fun _ => rfl, fun _ => rfl, fun _ => rfl, fun _ => rfl, fun _ => rfl, fun _ => rfl, fun _ => rfl, fun _ => rfl, fun _ => rfl, fun _ => rfl, fun _ => rfl, fun _ => rfl, fun _ => rfl, fun _ => rfl⟩
set_option maxRecDepth 100000 in
theorem gd_X2_renew : mGood MX2_renew := ⟨by decide +kernel, by decide +kernel, by decide +kernel⟩
set_option maxRecDepth 100000 in
set_option maxHeartbeats 4000000 in
theorem ft_X2_write : (∀ f : mE → Prop, w_o (mft MX2_write 0) f = f (.aload_n 0, 1, 0, 0, 0, 0, 0)) ∧
  (∀ f : mE → Prop, w_o (mft MX2_write 1) f = f (.getfield 15, 4, 2, 1, 0, 0, 0)) ∧
  (∀ f : mE → Prop, w_o (mft MX2_write 4) f = f (.iconst (-1), 5, 0, 0, 0, (-1), 0)) ∧
  (∀ f : mE → Prop, w_o (mft MX2_write 5) f = f (.if_icmp .ne 5, 8, 10, 0, 0, 0, 0)) ∧
  (∀ f : mE → Prop, w_o (mft MX2_write 8) f = f (.iconst 1, 9, 0, 0, 0, (1), 0)) ∧
  (∀ f : mE → Prop, w_o (mft MX2_write 9) f = f (.ireturn, 10, 0, 0, 0, 0, 0)) ∧
  (∀ f : mE → Prop, w_o (mft MX2_write 10) f = f (.iload_n 1, 11, 1, 0, 0, 0, 0)) ∧
  (∀ f : mE → Prop, w_o (mft MX2_write 11) f = f (.ifCond .lt 11, 14, 22, 0, 0, 0, 0)) ∧
  (∀ f : mE → Prop, w_o (mft MX2_write 14) f = f (.iload_n 1, 15, 1, 0, 0, 0, 0)) ∧
  (∀ f : mE → Prop, w_o (mft MX2_write 15) f = f (.aload_n 0, 16, 0, 0, 0, 0, 0)) ∧
  (∀ f : mE → Prop, w_o (mft MX2_write 16) f = f (.getfield 19, 19, 2, 2, 0, 0, 0)) ∧
  (∀ f : mE → Prop, w_o (mft MX2_write 19) f = f (.if_icmp .lt 5, 22, 24, 0, 0, 0, 0)) ∧
  (∀ f : mE → Prop, w_o (mft MX2_write 22) f = f (.iconst 2, 23, 0, 0, 0, (2), 0)) ∧
  (∀ f : mE → Prop, w_o (mft MX2_write 23) f = f (.ireturn, 24, 0, 0, 0, 0, 0)) ∧
  (∀ f : mE → Prop, w_o (mft MX2_write 24) f = f (.aload_n 0, 25, 0, 0, 0, 0, 0)) ∧
  (∀ f : mE → Prop, w_o (mft MX2_write 25) f = f (.getfield 9, 28, 2, 0, 0, 0, 0)) ∧
  (∀ f : mE → Prop, w_o (mft MX2_write 28) f = f (.iload_n 1, 29, 1, 0, 0, 0, 0)) ∧
  (∀ f : mE → Prop, w_o (mft MX2_write 29) f = f (.aload_n 0, 30, 0, 0, 0, 0, 0)) ∧
  (∀ f : mE → Prop, w_o (mft MX2_write 30) f = f (.iload_n 2, 31, 2, 0, 0, 0, 0)) ∧
  (∀ f : mE → Prop, w_o (mft MX2_write 31) f = f (.invokevirtual 22, 34, 31, 1, 2, 0, 0)) ∧
  (∀ f : mE → Prop, w_o (mft MX2_write 34) f = f (.iastore, 35, 0, 0, 0, 0, 0)) ∧
  (∀ f : mE → Prop, w_o (mft MX2_write 35) f = f (.iconst 0, 36, 0, 0, 0, (0), 0)) ∧
  (∀ f : mE → Prop, w_o (mft MX2_write 36) f = f (.ireturn, 37, 0, 0, 0, 0, 0)) := ⟨fun _ => rfl, fun _ => rfl, fun _ => rfl, fun _ => rfl, fun _ => rfl, fun _ => rfl, fun _ => rfl, fun _ => rfl, fun _ => rfl, fun _ => rfl, fun _ => rfl, fun _ => rfl, fun _ => rfl, fun _ => rfl, fun _ => rfl, fun _ => rfl, fun _ => rfl, fun _ => rfl, fun _ => rfl, fun _ => rfl, fun _ => rfl, fun _ => rfl, fun _ => rfl⟩
set_option maxRecDepth 100000 in
theorem gd_X2_write : mGood MX2_write := ⟨by decide +kernel, by decide +kernel, by decide +kernel⟩
set_option maxRecDepth 100000 in
set_option maxHeartbeats 4000000 in
theorem ft_X2_narrowed : (∀ f : mE → Prop, w_o (mft MX2_narrowed 0) f = f (.aload_n 0, 1, 0, 0, 0, 0, 0)) ∧
  (∀ f : mE → Prop, w_o (mft MX2_narrowed 1) f = f (.getfield 15, 4, 2, 1, 0, 0, 0)) ∧
  (∀ f : mE → Prop, w_o (mft MX2_narrowed 4) f = f (.lookupswitch 34 #[(0, 28), (1, 31)], 32, 0, 0, 0, 0, 0)) ∧
  (∀ f : mE → Prop, w_o (mft MX2_narrowed 32) f = f (.iload_n 1, 33, 1, 0, 0, 0, 0)) ∧
  (∀ f : mE → Prop, w_o (mft MX2_narrowed 33) f = f (.i2b, 34, 0, 0, 0, 0, 0)) ∧
  (∀ f : mE → Prop, w_o (mft MX2_narrowed 34) f = f (.ireturn, 35, 0, 0, 0, 0, 0)) ∧
  (∀ f : mE → Prop, w_o (mft MX2_narrowed 35) f = f (.iload_n 1, 36, 1, 0, 0, 0, 0)) ∧
  (∀ f : mE → Prop, w_o (mft MX2_narrowed 36) f = f (.i2s, 37, 0, 0, 0, 0, 0)) ∧
  (∀ f : mE → Prop, w_o (mft MX2_narrowed 37) f = f (.ireturn, 38, 0, 0, 0, 0, 0)) ∧
  (∀ f : mE → Prop, w_o (mft MX2_narrowed 38) f = f (.iload_n 1, 39, 1, 0, 0, 0, 0)) ∧
  (∀ f : mE → Prop, w_o (mft MX2_narrowed 39) f = f (.ireturn, 40, 0, 0, 0, 0, 0)) := ⟨fun _ => rfl, fun _ => rfl, fun _ => rfl, fun _ => rfl, fun _ => rfl, fun _ => rfl, fun _ => rfl, fun _ => rfl, fun _ => rfl, fun _ => rfl, fun _ => rfl⟩
set_option maxRecDepth 100000 in
theorem gd_X2_narrowed : mGood MX2_narrowed := ⟨by decide +kernel, by decide +kernel, by decide +kernel⟩
set_option maxRecDepth 100000 in
set_option maxHeartbeats 4000000 in
theorem ft_X2_tell : (∀ f : mE → Prop, w_o (mft MX2_tell 0) f = f (.aload_n 0, 1, 0, 0, 0, 0, 0)) ∧
  (∀ f : mE → Prop, w_o (mft MX2_tell 1) f = f (.getfield 15, 4, 2, 1, 0, 0, 0)) ∧
  (∀ f : mE → Prop, w_o (mft MX2_tell 4) f = f (.iconst (-1), 5, 0, 0, 0, (-1), 0)) ∧
  (∀ f : mE → Prop, w_o (mft MX2_tell 5) f = f (.if_icmp .ne 6, 8, 11, 0, 0, 0, 0)) ∧
  (∀ f : mE → Prop, w_o (mft MX2_tell 8) f = f (.bipush (-11), 10, 0, 0, 0, (-11), 0)) ∧
  (∀ f : mE → Prop, w_o (mft MX2_tell 10) f = f (.ireturn, 11, 0, 0, 0, 0, 0)) ∧
  (∀ f : mE → Prop, w_o (mft MX2_tell 11) f = f (.aload_n 0, 12, 0, 0, 0, 0, 0)) ∧
  (∀ f : mE → Prop, w_o (mft MX2_tell 12) f = f (.getfield 15, 15, 2, 1, 0, 0, 0)) ∧
  (∀ f : mE → Prop, w_o (mft MX2_tell 15) f = f (.iload_n 2, 16, 2, 0, 0, 0, 0)) ∧
  (∀ f : mE → Prop, w_o (mft MX2_tell 16) f = f (.if_icmp .eq 6, 19, 22, 0, 0, 0, 0)) ∧
  (∀ f : mE → Prop, w_o (mft MX2_tell 19) f = f (.bipush (-13), 21, 0, 0, 0, (-13), 0)) ∧
  (∀ f : mE → Prop, w_o (mft MX2_tell 21) f = f (.ireturn, 22, 0, 0, 0, 0, 0)) ∧
  (∀ f : mE → Prop, w_o (mft MX2_tell 22) f = f (.aload_n 1, 23, 1, 0, 0, 0, 0)) ∧
  (∀ f : mE → Prop, w_o (mft MX2_tell 23) f = f (.invokevirtual 26, 26, 1, 0, 0, 0, 0)) ∧
  (∀ f : mE → Prop, w_o (mft MX2_tell 26) f = f (.iconst 0, 27, 0, 0, 0, (0), 0)) ∧
  (∀ f : mE → Prop, w_o (mft MX2_tell 27) f = f (.istore 5, 29, 5, 0, 0, 0, 0)) ∧
  (∀ f : mE → Prop, w_o (mft MX2_tell 29) f = f (.iload 5, 31, 5, 0, 0, 0, 0)) ∧
  (∀ f : mE → Prop, w_o (mft MX2_tell 31) f = f (.iload 4, 33, 4, 0, 0, 0, 0)) ∧
  (∀ f : mE → Prop, w_o (mft MX2_tell 33) f = f (.if_icmp .ge 73, 36, 106, 0, 0, 0, 0)) ∧
  (∀ f : mE → Prop, w_o (mft MX2_tell 36) f = f (.iload_n 3, 37, 3, 0, 0, 0, 0)) ∧
  (∀ f : mE → Prop, w_o (mft MX2_tell 37) f = f (.i2l, 38, 0, 0, 0, 0, 0)) ∧
  (∀ f : mE → Prop, w_o (mft MX2_tell 38) f = f (.iconst 2, 39, 0, 0, 0, (2), 0)) ∧
  (∀ f : mE → Prop, w_o (mft MX2_tell 39) f = f (.iload 5, 41, 5, 0, 0, 0, 0)) ∧
  (∀ f : mE → Prop, w_o (mft MX2_tell 41) f = f (.imul, 42, 0, 0, 0, 0, 0)) ∧
  (∀ f : mE → Prop, w_o (mft MX2_tell 42) f = f (.i2l, 43, 0, 0, 0, 0, 0)) ∧
  (∀ f : mE → Prop, w_o (mft MX2_tell 43) f = f (.ladd, 44, 0, 0, 0, 0, 0)) ∧
  (∀ f : mE → Prop, w_o (mft MX2_tell 44) f = f (.lstore 6, 46, 6, 0, 0, 0, 0)) ∧
  (∀ f : mE → Prop, w_o (mft MX2_tell 46) f = f (.lload 6, 48, 6, 0, 0, 0, 0)) ∧
  (∀ f : mE → Prop, w_o (mft MX2_tell 48) f = f (.lconst 0, 49, 0, 0, 0, 0, 0)) ∧
  (∀ f : mE → Prop, w_o (mft MX2_tell 49) f = f (.lcmp, 50, 0, 0, 0, 0, 0)) ∧
  (∀ f : mE → Prop, w_o (mft MX2_tell 50) f = f (.ifCond .lt 16, 53, 66, 0, 0, 0, 0)) ∧
  (∀ f : mE → Prop, w_o (mft MX2_tell 53) f = f (.lload 6, 55, 6, 0, 0, 0, 0)) ∧
  (∀ f : mE → Prop, w_o (mft MX2_tell 55) f = f (.lconst 1, 56, 0, 0, 0, 0, 1)) ∧
  (∀ f : mE → Prop, w_o (mft MX2_tell 56) f = f (.ladd, 57, 0, 0, 0, 0, 0)) ∧
  (∀ f : mE → Prop, w_o (mft MX2_tell 57) f = f (.aload_n 0, 58, 0, 0, 0, 0, 0)) ∧
  (∀ f : mE → Prop, w_o (mft MX2_tell 58) f = f (.getfield 19, 61, 2, 2, 0, 0, 0)) ∧
  (∀ f : mE → Prop, w_o (mft MX2_tell 61) f = f (.i2l, 62, 0, 0, 0, 0, 0)) ∧
  (∀ f : mE → Prop, w_o (mft MX2_tell 62) f = f (.lcmp, 63, 0, 0, 0, 0, 0)) ∧
  (∀ f : mE → Prop, w_o (mft MX2_tell 63) f = f (.ifCond .lt 6, 66, 69, 0, 0, 0, 0)) ∧
  (∀ f : mE → Prop, w_o (mft MX2_tell 66) f = f (.bipush (-12), 68, 0, 0, 0, (-12), 0)) ∧
  (∀ f : mE → Prop, w_o (mft MX2_tell 68) f = f (.ireturn, 69, 0, 0, 0, 0, 0)) ∧
  (∀ f : mE → Prop, w_o (mft MX2_tell 69) f = f (.aload_n 1, 70, 1, 0, 0, 0, 0)) ∧
  (∀ f : mE → Prop, w_o (mft MX2_tell 70) f = f (.aload_n 0, 71, 0, 0, 0, 0, 0)) ∧
  (∀ f : mE → Prop, w_o (mft MX2_tell 71) f = f (.getfield 9, 74, 2, 0, 0, 0, 0)) ∧
  (∀ f : mE → Prop, w_o (mft MX2_tell 74) f = f (.lload 6, 76, 6, 0, 0, 0, 0)) ∧
  (∀ f : mE → Prop, w_o (mft MX2_tell 76) f = f (.l2i, 77, 0, 0, 0, 0, 0)) ∧
  (∀ f : mE → Prop, w_o (mft MX2_tell 77) f = f (.iaload, 78, 0, 0, 0, 0, 0)) ∧
  (∀ f : mE → Prop, w_o (mft MX2_tell 78) f = f (.aload_n 0, 79, 0, 0, 0, 0, 0)) ∧
  (∀ f : mE → Prop, w_o (mft MX2_tell 79) f = f (.getfield 9, 82, 2, 0, 0, 0, 0)) ∧
  (∀ f : mE → Prop, w_o (mft MX2_tell 82) f = f (.lload 6, 84, 6, 0, 0, 0, 0)) ∧
  (∀ f : mE → Prop, w_o (mft MX2_tell 84) f = f (.l2i, 85, 0, 0, 0, 0, 0)) ∧
  (∀ f : mE → Prop, w_o (mft MX2_tell 85) f = f (.iconst 1, 86, 0, 0, 0, (1), 0)) ∧
  (∀ f : mE → Prop, w_o (mft MX2_tell 86) f = f (.iadd, 87, 0, 0, 0, 0, 0)) ∧
  (∀ f : mE → Prop, w_o (mft MX2_tell 87) f = f (.iaload, 88, 0, 0, 0, 0, 0)) ∧
  (∀ f : mE → Prop, w_o (mft MX2_tell 88) f = f (.invokevirtual 31, 91, 6, 2, 0, 0, 0)) ∧
  (∀ f : mE → Prop, w_o (mft MX2_tell 91) f = f (.ifCond .ne 9, 94, 100, 0, 0, 0, 0)) ∧
  (∀ f : mE → Prop, w_o (mft MX2_tell 94) f = f (.bipush (-20), 96, 0, 0, 0, (-20), 0)) ∧
  (∀ f : mE → Prop, w_o (mft MX2_tell 96) f = f (.iload 5, 98, 5, 0, 0, 0, 0)) ∧
  (∀ f : mE → Prop, w_o (mft MX2_tell 98) f = f (.isub, 99, 0, 0, 0, 0, 0)) ∧
  (∀ f : mE → Prop, w_o (mft MX2_tell 99) f = f (.ireturn, 100, 0, 0, 0, 0, 0)) ∧
  (∀ f : mE → Prop, w_o (mft MX2_tell 100) f = f (.iinc 5 1, 103, 5, 0, 0, (1), 0)) ∧
  (∀ f : mE → Prop, w_o (mft MX2_tell 103) f = f (.goto (-74), 106, 29, 0, 0, 0, 0)) ∧
  (∀ f : mE → Prop, w_o (mft MX2_tell 106) f = f (.aload_n 1, 107, 1, 0, 0, 0, 0)) ∧
  (∀ f : mE → Prop, w_o (mft MX2_tell 107) f = f (.invokevirtual 35, 110, 3, 0, 0, 0, 0)) ∧
  (∀ f : mE → Prop, w_o (mft MX2_tell 110) f = f (.ifCond .eq 7, 113, 117, 0, 0, 0, 0)) ∧
  (∀ f : mE → Prop, w_o (mft MX2_tell 113) f = f (.iconst 0, 114, 0, 0, 0, (0), 0)) ∧
  (∀ f : mE → Prop, w_o (mft MX2_tell 114) f = f (.goto 5, 117, 119, 0, 0, 0, 0)) ∧
  (∀ f : mE → Prop, w_o (mft MX2_tell 117) f = f (.bipush (-50), 119, 0, 0, 0, (-50), 0)) ∧
  (∀ f : mE → Prop, w_o (mft MX2_tell 119) f = f (.ireturn, 120, 0, 0, 0, 0, 0)) := ⟨fun _ => rfl, fun _ => rfl, fun _ => rfl, fun _ => rfl, fun _ => rfl, fun _ => rfl, fun _ => rfl, fun _ => rfl, fun _ => rfl, fun _ => rfl, fun _ => rfl, fun _ => rfl, fun _ => rfl, fun _ => rfl, fun _ => rfl, fun _ => rfl, fun _ => rfl, fun _ => rfl, fun _ => rfl, fun _ => rfl, fun _ => rfl, fun _ => rfl, fun _ => rfl, fun _ => rfl, fun _ => rfl, fun _ => rfl, fun _ => rfl, fun _ => rfl, fun _ => rfl, fun _ => rfl, fun _ => rfl, fun _ => rfl, fun _ => rfl, fun _ => rfl, fun _ => rfl, fun _ => rfl, fun _ => rfl, fun _ => rfl, fun _ => rfl, fun _ => rfl, fun _ => rfl, fun _ => rfl, fun _ => rfl, fun _ => rfl, fun _ => rfl, fun _ => rfl, fun _ => rfl, fun _ => rfl, fun _ => rfl, fun _ => rfl, fun _ => rfl, fun _ => rfl, fun _ => rfl, fun _ => rfl, fun _ => rfl, fun _ => rfl, fun _ => rfl, fun _ => rfl, fun _ => rfl, fun _ => rfl, fun _ => rfl, fun _ => rfl, fun _ => rfl, fun _ => rfl, fun _ => rfl, fun _ => rfl, fun _ => rfl, fun _ => rfl, fun _ => rfl⟩
set_option maxRecDepth 100000 in
theorem gd_X2_tell : mGood MX2_tell := ⟨by decide +kernel, by decide +kernel, by decide +kernel⟩
set_option maxRecDepth 100000 in
set_option maxHeartbeats 4000000 in
theorem ft_X3_init : (∀ f : mE → Prop, w_o (mft MX3_init 0) f = f (.aload_n 0, 1, 0, 0, 0, 0, 0)) ∧
  (∀ f : mE → Prop, w_o (mft MX3_init 1) f = f (.invokespecial 3, 4, 1001, 0, 0, 0, 0)) ∧
  (∀ f : mE → Prop, w_o (mft MX3_init 4) f = f (.aload_n 0, 5, 0, 0, 0, 0, 0)) ∧
  (∀ f : mE → Prop, w_o (mft MX3_init 5) f = f (.new 9, 8, 0, 0, 0, 0, 0)) ∧
  (∀ f : mE → Prop, w_o (mft MX3_init 8) f = f (.dup, 9, 0, 0, 0, 0, 0)) ∧
  (∀ f : mE → Prop, w_o (mft MX3_init 9) f = f (.invokespecial 11, 12, 0, 0, 0, 0, 0)) ∧
  (∀ f : mE → Prop, w_o (mft MX3_init 12) f = f (.putfield 12, 15, 3, 0, 2, 0, 0)) ∧
  (∀ f : mE → Prop, w_o (mft MX3_init 15) f = f (.aload_n 0, 16, 0, 0, 0, 0, 0)) ∧
  (∀ f : mE → Prop, w_o (mft MX3_init 16) f = f (.bipush 31, 18, 0, 0, 0, (31), 0)) ∧
  (∀ f : mE → Prop, w_o (mft MX3_init 18) f = f (.bipush 10, 20, 0, 0, 0, (10), 0)) ∧
  (∀ f : mE → Prop, w_o (mft MX3_init 20) f = f (.multianewarray 18 2, 24, 0, 0, 0, 0, 0)) ∧
  (∀ f : mE → Prop, w_o (mft MX3_init 24) f = f (.putfield 20, 27, 3, 1, 2, 0, 0)) ∧
  (∀ f : mE → Prop, w_o (mft MX3_init 27) f = f (.aload_n 0, 28, 0, 0, 0, 0, 0)) ∧
  (∀ f : mE → Prop, w_o (mft MX3_init 28) f = f (.bipush 30, 30, 0, 0, 0, (30), 0)) ∧
  (∀ f : mE → Prop, w_o (mft MX3_init 30) f = f (.newarray .boolean, 32, 0, 0, 0, 0, 0)) ∧
  (∀ f : mE → Prop, w_o (mft MX3_init 32) f = f (.putfield 23, 35, 3, 2, 2, 0, 0)) ∧
  (∀ f : mE → Prop, w_o (mft MX3_init 35) f = f (.aload_n 0, 36, 0, 0, 0, 0, 0)) ∧
  (∀ f : mE → Prop, w_o (mft MX3_init 36) f = f (.bipush 13, 38, 0, 0, 0, (13), 0)) ∧
  (∀ f : mE → Prop, w_o (mft MX3_init 38) f = f (.newarray .int, 40, 0, 0, 0, 0, 0)) ∧
  (∀ f : mE → Prop, w_o (mft MX3_init 40) f = f (.putfield 27, 43, 3, 3, 2, 0, 0)) ∧
  (∀ f : mE → Prop, w_o (mft MX3_init 43) f = f (.aload_n 0, 44, 0, 0, 0, 0, 0)) ∧
  (∀ f : mE → Prop, w_o (mft MX3_init 44) f = f (.iconst 0, 45, 0, 0, 0, (0), 0)) ∧
  (∀ f : mE → Prop, w_o (mft MX3_init 45) f = f (.putfield 31, 48, 3, 4, 1, 0, 0)) ∧
  (∀ f : mE → Prop, w_o (mft MX3_init 48) f = f (.aload_n 0, 49, 0, 0, 0, 0, 0)) ∧
  (∀ f : mE → Prop, w_o (mft MX3_init 49) f = f (.iconst 0, 50, 0, 0, 0, (0), 0)) ∧
  (∀ f : mE → Prop, w_o (mft MX3_init 50) f = f (.putfield 35, 53, 3, 5, 0, 0, 0)) ∧
  (∀ f : mE → Prop, w_o (mft MX3_init 53) f = f (.aload_n 0, 54, 0, 0, 0, 0, 0)) ∧
  (∀ f : mE → Prop, w_o (mft MX3_init 54) f = f (.iconst 0, 55, 0, 0, 0, (0), 0)) ∧
  (∀ f : mE → Prop, w_o (mft MX3_init 55) f = f (.putfield 39, 58, 3, 6, 0, 0, 0)) ∧
  (∀ f : mE → Prop, w_o (mft MX3_init 58) f = f (.return_, 59, 0, 0, 0, 0, 0)) := ⟨fun _ => rfl, fun _ => rfl, fun _ => rfl, fun _ => rfl, fun _ => rfl, fun _ => rfl, fun _ => rfl, fun _ => rfl, fun _ => rfl, fun _ => rfl, fun _ => rfl, fun _ => rfl, fun _ => rfl, fun _ => rfl, fun _ => rfl, fun _ => rfl, fun _ => rfl, fun _ => rfl, fun _ => rfl, fun _ => rfl, fun _ => rfl, fun _ => rfl, fun _ => rfl, fun _ => rfl, fun _ => rfl, fun _ => rfl, fun _ => rfl, fun _ => rfl, fun _ => rfl, fun _ => rfl⟩
set_option maxRecDepth 100000 in
theorem gd_X3_init : mGood MX3_init := ⟨by decide +kernel, by decide +kernel, by decide +kernel⟩
set_option maxRecDepth 100000 in
set_option maxHeartbeats 4000000 in
theorem ft_X3_countAll : (∀ f : mE → Prop, w_o (mft MX3_countAll 0) f = f (.aload_n 0, 1, 0, 0, 0, 0, 0)) ∧
  (∀ f : mE → Prop, w_o (mft MX3_countAll 1) f = f (.aload_n 1, 2, 1, 0, 0, 0, 0)) ∧
  (∀ f : mE → Prop, w_o (mft MX3_countAll 2) f = f (.iload_n 2, 3, 2, 0, 0, 0, 0)) ∧
  (∀ f : mE → Prop, w_o (mft MX3_countAll 3) f = f (.iconst 0, 4, 0, 0, 0, (0), 0)) ∧
  (∀ f : mE → Prop, w_o (mft MX3_countAll 4) f = f (.invokevirtual 42, 7, 37, 3, 3, 0, 0)) ∧
  (∀ f : mE → Prop, w_o (mft MX3_countAll 7) f = f (.aload_n 0, 8, 0, 0, 0, 0, 0)) ∧
  (∀ f : mE → Prop, w_o (mft MX3_countAll 8) f = f (.iconst 0, 9, 0, 0, 0, (0), 0)) ∧
  (∀ f : mE → Prop, w_o (mft MX3_countAll 9) f = f (.iconst 0, 10, 0, 0, 0, (0), 0)) ∧
  (∀ f : mE → Prop, w_o (mft MX3_countAll 10) f = f (.iconst 0, 11, 0, 0, 0, (0), 0)) ∧
  (∀ f : mE → Prop, w_o (mft MX3_countAll 11) f = f (.invokevirtual 46, 14, 39, 3, 3, 0, 0)) ∧
  (∀ f : mE → Prop, w_o (mft MX3_countAll 14) f = f (.return_, 15, 0, 0, 0, 0, 0)) := ⟨fun _ => rfl, fun _ => rfl, fun _ => rfl, fun _ => rfl, fun _ => rfl, fun _ => rfl, fun _ => rfl, fun _ => rfl, fun _ => rfl, fun _ => rfl, fun _ => rfl⟩
set_option maxRecDepth 100000 in
theorem gd_X3_countAll : mGood MX3_countAll := ⟨by decide +kernel, by decide +kernel, by decide +kernel⟩
set_option maxRecDepth 100000 in
set_option maxHeartbeats 4000000 in
theorem ft_X3_findFirst : (∀ f : mE → Prop, w_o (mft MX3_findFirst 0) f = f (.aload_n 0, 1, 0, 0, 0, 0, 0)) ∧
  (∀ f : mE → Prop, w_o (mft MX3_findFirst 1) f = f (.aload_n 1, 2, 1, 0, 0, 0, 0)) ∧
  (∀ f : mE → Prop, w_o (mft MX3_findFirst 2) f = f (.iload_n 2, 3, 2, 0, 0, 0, 0)) ∧
  (∀ f : mE → Prop, w_o (mft MX3_findFirst 3) f = f (.iconst 1, 4, 0, 0, 0, (1), 0)) ∧
  (∀ f : mE → Prop, w_o (mft MX3_findFirst 4) f = f (.invokevirtual 42, 7, 37, 3, 3, 0, 0)) ∧
  (∀ f : mE → Prop, w_o (mft MX3_findFirst 7) f = f (.aload_n 0, 8, 0, 0, 0, 0, 0)) ∧
  (∀ f : mE → Prop, w_o (mft MX3_findFirst 8) f = f (.iconst 0, 9, 0, 0, 0, (0), 0)) ∧
  (∀ f : mE → Prop, w_o (mft MX3_findFirst 9) f = f (.iconst 0, 10, 0, 0, 0, (0), 0)) ∧
  (∀ f : mE → Prop, w_o (mft MX3_findFirst 10) f = f (.iconst 0, 11, 0, 0, 0, (0), 0)) ∧
  (∀ f : mE → Prop, w_o (mft MX3_findFirst 11) f = f (.invokevirtual 46, 14, 39, 3, 3, 0, 0)) ∧
  (∀ f : mE → Prop, w_o (mft MX3_findFirst 14) f = f (.return_, 15, 0, 0, 0, 0, 0)) := ⟨fun _ => rfl, fun _ => rfl, fun _ => rfl, fun _ => rfl, fun _ => rfl, fun _ => rfl, fun _ => rfl, fun _ => rfl, fun _ => rfl, fun _ => rfl, fun _ => rfl⟩
set_option maxRecDepth 100000 in
theorem gd_X3_findFirst : mGood MX3_findFirst := ⟨by decide +kernel, by decide +kernel, by decide +kernel⟩
set_option maxRecDepth 100000 in
set_option maxHeartbeats 4000000 in
theorem ft_X3_foundWith : (∀ f : mE → Prop, w_o (mft MX3_foundWith 0) f = f (.iload_n 1, 1, 1, 0, 0, 0, 0)) ∧
  (∀ f : mE → Prop, w_o (mft MX3_foundWith 1) f = f (.ifCond .lt 18, 4, 19, 0, 0, 0, 0)) ∧
  (∀ f : mE → Prop, w_o (mft MX3_foundWith 4) f = f (.iload_n 1, 5, 1, 0, 0, 0, 0)) ∧
  (∀ f : mE → Prop, w_o (mft MX3_foundWith 5) f = f (.bipush 12, 7, 0, 0, 0, (12), 0)) ∧
  (∀ f : mE → Prop, w_o (mft MX3_foundWith 7) f = f (.if_icmp .gt 12, 10, 19, 0, 0, 0, 0)) ∧
  (∀ f : mE → Prop, w_o (mft MX3_foundWith 10) f = f (.aload_n 0, 11, 0, 0, 0, 0, 0)) ∧
  (∀ f : mE → Prop, w_o (mft MX3_foundWith 11) f = f (.getfield 27, 14, 3, 3, 0, 0, 0)) ∧
  (∀ f : mE → Prop, w_o (mft MX3_foundWith 14) f = f (.iload_n 1, 15, 1, 0, 0, 0, 0)) ∧
  (∀ f : mE → Prop, w_o (mft MX3_foundWith 15) f = f (.iaload, 16, 0, 0, 0, 0, 0)) ∧
  (∀ f : mE → Prop, w_o (mft MX3_foundWith 16) f = f (.goto 4, 19, 20, 0, 0, 0, 0)) ∧
  (∀ f : mE → Prop, w_o (mft MX3_foundWith 19) f = f (.iconst 0, 20, 0, 0, 0, (0), 0)) ∧
  (∀ f : mE → Prop, w_o (mft MX3_foundWith 20) f = f (.ireturn, 21, 0, 0, 0, 0, 0)) := ⟨fun _ => rfl, fun _ => rfl, fun _ => rfl, fun _ => rfl, fun _ => rfl, fun _ => rfl, fun _ => rfl, fun _ => rfl, fun _ => rfl, fun _ => rfl, fun _ => rfl, fun _ => rfl⟩
set_option maxRecDepth 100000 in
theorem gd_X3_foundWith : mGood MX3_foundWith := ⟨by decide +kernel, by decide +kernel, by decide +kernel⟩
set_option maxRecDepth 100000 in
set_option maxHeartbeats 4000000 in
theorem ft_X3_begin : (∀ f : mE → Prop, w_o (mft MX3_begin 0) f = f (.aload_n 0, 1, 0, 0, 0, 0, 0)) ∧
  (∀ f : mE → Prop, w_o (mft MX3_begin 1) f = f (.aload_n 1, 2, 1, 0, 0, 0, 0)) ∧
  (∀ f : mE → Prop, w_o (mft MX3_begin 2) f = f (.getfield 50, 5, 5, 0, 0, 0, 0)) ∧
  (∀ f : mE → Prop, w_o (mft MX3_begin 5) f = f (.putfield 12, 8, 3, 0, 2, 0, 0)) ∧
  (∀ f : mE → Prop, w_o (mft MX3_begin 8) f = f (.aload_n 0, 9, 0, 0, 0, 0, 0)) ∧
  (∀ f : mE → Prop, w_o (mft MX3_begin 9) f = f (.iload_n 3, 10, 3, 0, 0, 0, 0)) ∧
  (∀ f : mE → Prop, w_o (mft MX3_begin 10) f = f (.putfield 31, 13, 3, 4, 1, 0, 0)) ∧
  (∀ f : mE → Prop, w_o (mft MX3_begin 13) f = f (.aload_n 0, 14, 0, 0, 0, 0, 0)) ∧
  (∀ f : mE → Prop, w_o (mft MX3_begin 14) f = f (.iconst 0, 15, 0, 0, 0, (0), 0)) ∧
  (∀ f : mE → Prop, w_o (mft MX3_begin 15) f = f (.putfield 35, 18, 3, 5, 0, 0, 0)) ∧
  (∀ f : mE → Prop, w_o (mft MX3_begin 18) f = f (.aload_n 0, 19, 0, 0, 0, 0, 0)) ∧
  (∀ f : mE → Prop, w_o (mft MX3_begin 19) f = f (.iconst 0, 20, 0, 0, 0, (0), 0)) ∧
  (∀ f : mE → Prop, w_o (mft MX3_begin 20) f = f (.putfield 39, 23, 3, 6, 0, 0, 0)) ∧
  (∀ f : mE → Prop, w_o (mft MX3_begin 23) f = f (.iconst 0, 24, 0, 0, 0, (0), 0)) ∧
  (∀ f : mE → Prop, w_o (mft MX3_begin 24) f = f (.istore 4, 26, 4, 0, 0, 0, 0)) ∧
  (∀ f : mE → Prop, w_o (mft MX3_begin 26) f = f (.iload 4, 28, 4, 0, 0, 0, 0)) ∧
  (∀ f : mE → Prop, w_o (mft MX3_begin 28) f = f (.bipush 12, 30, 0, 0, 0, (12), 0)) ∧
  (∀ f : mE → Prop, w_o (mft MX3_begin 30) f = f (.if_icmp .gt 17, 33, 47, 0, 0, 0, 0)) ∧
  (∀ f : mE → Prop, w_o (mft MX3_begin 33) f = f (.aload_n 0, 34, 0, 0, 0, 0, 0)) ∧
  (∀ f : mE → Prop, w_o (mft MX3_begin 34) f = f (.getfield 27, 37, 3, 3, 0, 0, 0)) ∧
  (∀ f : mE → Prop, w_o (mft MX3_begin 37) f = f (.iload 4, 39, 4, 0, 0, 0, 0)) ∧
  (∀ f : mE → Prop, w_o (mft MX3_begin 39) f = f (.iconst 0, 40, 0, 0, 0, (0), 0)) ∧
  (∀ f : mE → Prop, w_o (mft MX3_begin 40) f = f (.iastore, 41, 0, 0, 0, 0, 0)) ∧
  (∀ f : mE → Prop, w_o (mft MX3_begin 41) f = f (.iinc 4 1, 44, 4, 0, 0, (1), 0)) ∧
  (∀ f : mE → Prop, w_o (mft MX3_begin 44) f = f (.goto (-18), 47, 26, 0, 0, 0, 0)) ∧
  (∀ f : mE → Prop, w_o (mft MX3_begin 47) f = f (.iconst 0, 48, 0, 0, 0, (0), 0)) ∧
  (∀ f : mE → Prop, w_o (mft MX3_begin 48) f = f (.istore 4, 50, 4, 0, 0, 0, 0)) ∧
  (∀ f : mE → Prop, w_o (mft MX3_begin 50) f = f (.iload 4, 52, 4, 0, 0, 0, 0)) ∧
  (∀ f : mE → Prop, w_o (mft MX3_begin 52) f = f (.aload_n 0, 53, 0, 0, 0, 0, 0)) ∧
  (∀ f : mE → Prop, w_o (mft MX3_begin 53) f = f (.getfield 12, 56, 3, 0, 0, 0, 0)) ∧
  (∀ f : mE → Prop, w_o (mft MX3_begin 56) f = f (.getfield 53, 59, 0, 3, 0, 0, 0)) ∧
  (∀ f : mE → Prop, w_o (mft MX3_begin 59) f = f (.if_icmp .ge 45, 62, 104, 0, 0, 0, 0)) ∧
  (∀ f : mE → Prop, w_o (mft MX3_begin 62) f = f (.aload_n 0, 63, 0, 0, 0, 0, 0)) ∧
  (∀ f : mE → Prop, w_o (mft MX3_begin 63) f = f (.getfield 23, 66, 3, 2, 0, 0, 0)) ∧
  (∀ f : mE → Prop, w_o (mft MX3_begin 66) f = f (.iload 4, 68, 4, 0, 0, 0, 0)) ∧
  (∀ f : mE → Prop, w_o (mft MX3_begin 68) f = f (.aload_n 0, 69, 0, 0, 0, 0, 0)) ∧
  (∀ f : mE → Prop, w_o (mft MX3_begin 69) f = f (.getfield 12, 72, 3, 0, 0, 0, 0)) ∧
  (∀ f : mE → Prop, w_o (mft MX3_begin 72) f = f (.getfield 56, 75, 0, 0, 0, 0, 0)) ∧
  (∀ f : mE → Prop, w_o (mft MX3_begin 75) f = f (.iload 4, 77, 4, 0, 0, 0, 0)) ∧
  (∀ f : mE → Prop, w_o (mft MX3_begin 77) f = f (.iaload, 78, 0, 0, 0, 0, 0)) ∧
  (∀ f : mE → Prop, w_o (mft MX3_begin 78) f = f (.iconst 1, 79, 0, 0, 0, (1), 0)) ∧
  (∀ f : mE → Prop, w_o (mft MX3_begin 79) f = f (.if_icmp .ne 17, 82, 96, 0, 0, 0, 0)) ∧
  (∀ f : mE → Prop, w_o (mft MX3_begin 82) f = f (.aload_n 1, 83, 1, 0, 0, 0, 0)) ∧
  (∀ f : mE → Prop, w_o (mft MX3_begin 83) f = f (.iload_n 2, 84, 2, 0, 0, 0, 0)) ∧
  (∀ f : mE → Prop, w_o (mft MX3_begin 84) f = f (.iload 4, 86, 4, 0, 0, 0, 0)) ∧
  (∀ f : mE → Prop, w_o (mft MX3_begin 86) f = f (.invokestatic 59, 89, 38, 3, 3, 0, 0)) ∧
  (∀ f : mE → Prop, w_o (mft MX3_begin 89) f = f (.ifCond .eq 7, 92, 96, 0, 0, 0, 0)) ∧
  (∀ f : mE → Prop, w_o (mft MX3_begin 92) f = f (.iconst 1, 93, 0, 0, 0, (1), 0)) ∧
  (∀ f : mE → Prop, w_o (mft MX3_begin 93) f = f (.goto 4, 96, 97, 0, 0, 0, 0)) ∧
  (∀ f : mE → Prop, w_o (mft MX3_begin 96) f = f (.iconst 0, 97, 0, 0, 0, (0), 0)) ∧
  (∀ f : mE → Prop, w_o (mft MX3_begin 97) f = f (.bastore, 98, 2, 0, 0, 0, 0)) ∧
  (∀ f : mE → Prop, w_o (mft MX3_begin 98) f = f (.iinc 4 1, 101, 4, 0, 0, (1), 0)) ∧
  (∀ f : mE → Prop, w_o (mft MX3_begin 101) f = f (.goto (-51), 104, 50, 0, 0, 0, 0)) ∧
  (∀ f : mE → Prop, w_o (mft MX3_begin 104) f = f (.return_, 105, 0, 0, 0, 0, 0)) := ⟨fun _ => rfl, fun _ => rfl, fun _ => rfl, fun _ => rfl, fun _ => rfl, fun _ => rfl, fun _ => rfl, fun _ => rfl, fun _ => rfl, fun _ => rfl, fun _ => rfl, fun _ => rfl, fun _ => rfl, fun _ => rfl, fun _ => rfl, fun _ => rfl, fun _ => rfl, fun _ => rfl, fun _ => rfl, fun _ => rfl, fun _ => rfl, fun _ => rfl, fun _ => rfl, fun _ => rfl, fun _ => rfl, fun _ => rfl, fun _ => rfl, fun _ => rfl, fun _ => rfl, fun _ => rfl, fun _ => rfl, fun _ => rfl, fun _ => rfl, fun _ => rfl, fun _ => rfl, fun _ => rfl, fun _ => rfl, fun _ => rfl, fun _ => rfl, fun _ => rfl, fun _ => rfl, fun _ => rfl, fun _ => rfl, fun _ => rfl, fun _ => rfl, fun _ => rfl, fun _ => rfl, fun _ => rfl, fun _ => rfl, fun _ => rfl, fun _ => rfl, fun _ => rfl, fun _ => rfl, fun _ => rfl⟩
set_option maxRecDepth 100000 in
theorem gd_X3_begin : mGood MX3_begin := ⟨by decide +kernel, by decide +kernel, by decide +kernel⟩
set_option maxRecDepth 100000 in
set_option maxHeartbeats 4000000 in
theorem ft_X3_isOfSort : (∀ f : mE → Prop, w_o (mft MX3_isOfSort 0) f = f (.iload_n 1, 1, 1, 0, 0, 0, 0)) ∧
  (∀ f : mE → Prop, w_o (mft MX3_isOfSort 1) f = f (.lookupswitch 35 #[(0, 27), (1, 29)], 28, 0, 0, 0, 0, 0)) ∧
  (∀ f : mE → Prop, w_o (mft MX3_isOfSort 28) f = f (.iconst 1, 29, 0, 0, 0, (1), 0)) ∧
  (∀ f : mE → Prop, w_o (mft MX3_isOfSort 29) f = f (.ireturn, 30, 0, 0, 1, 0, 0)) ∧
  (∀ f : mE → Prop, w_o (mft MX3_isOfSort 30) f = f (.aload_n 0, 31, 0, 0, 0, 0, 0)) ∧
  (∀ f : mE → Prop, w_o (mft MX3_isOfSort 31) f = f (.iload_n 2, 32, 2, 0, 0, 0, 0)) ∧
  (∀ f : mE → Prop, w_o (mft MX3_isOfSort 32) f = f (.invokevirtual 63, 35, 68, 1, 5, 0, 0)) ∧
  (∀ f : mE → Prop, w_o (mft MX3_isOfSort 35) f = f (.ireturn, 36, 0, 0, 1, 0, 0)) ∧
  (∀ f : mE → Prop, w_o (mft MX3_isOfSort 36) f = f (.aload_n 0, 37, 0, 0, 0, 0, 0)) ∧
  (∀ f : mE → Prop, w_o (mft MX3_isOfSort 37) f = f (.iload_n 2, 38, 2, 0, 0, 0, 0)) ∧
  (∀ f : mE → Prop, w_o (mft MX3_isOfSort 38) f = f (.invokevirtual 67, 41, 75, 1, 5, 0, 0)) ∧
  (∀ f : mE → Prop, w_o (mft MX3_isOfSort 41) f = f (.ifCond .ne 7, 44, 48, 0, 0, 0, 0)) ∧
  (∀ f : mE → Prop, w_o (mft MX3_isOfSort 44) f = f (.iconst 1, 45, 0, 0, 0, (1), 0)) ∧
  (∀ f : mE → Prop, w_o (mft MX3_isOfSort 45) f = f (.goto 4, 48, 49, 0, 0, 0, 0)) ∧
  (∀ f : mE → Prop, w_o (mft MX3_isOfSort 48) f = f (.iconst 0, 49, 0, 0, 0, (0), 0)) ∧
  (∀ f : mE → Prop, w_o (mft MX3_isOfSort 49) f = f (.ireturn, 50, 0, 0, 1, 0, 0)) := ⟨fun _ => rfl, fun _ => rfl, fun _ => rfl, fun _ => rfl, fun _ => rfl, fun _ => rfl, fun _ => rfl, fun _ => rfl, fun _ => rfl, fun _ => rfl, fun _ => rfl, fun _ => rfl, fun _ => rfl, fun _ => rfl, fun _ => rfl, fun _ => rfl⟩
set_option maxRecDepth 100000 in
theorem gd_X3_isOfSort : mGood MX3_isOfSort := ⟨by decide +kernel, by decide +kernel, by decide +kernel⟩
set_option maxRecDepth 100000 in
set_option maxHeartbeats 4000000 in
theorem ft_X3_search : (∀ f : mE → Prop, w_o (mft MX3_search 0) f = f (.iload_n 1, 1, 1, 0, 0, 0, 0)) ∧
  (∀ f : mE → Prop, w_o (mft MX3_search 1) f = f (.aload_n 0, 2, 0, 0, 0, 0, 0)) ∧
  (∀ f : mE → Prop, w_o (mft MX3_search 2) f = f (.getfield 12, 5, 3, 0, 0, 0, 0)) ∧
  (∀ f : mE → Prop, w_o (mft MX3_search 5) f = f (.getfield 53, 8, 0, 3, 0, 0, 0)) ∧
  (∀ f : mE → Prop, w_o (mft MX3_search 8) f = f (.if_icmp .ge 9, 11, 17, 0, 0, 0, 0)) ∧
  (∀ f : mE → Prop, w_o (mft MX3_search 11) f = f (.iload_n 1, 12, 1, 0, 0, 0, 0)) ∧
  (∀ f : mE → Prop, w_o (mft MX3_search 12) f = f (.bipush 30, 14, 0, 0, 0, (30), 0)) ∧
  (∀ f : mE → Prop, w_o (mft MX3_search 14) f = f (.if_icmp .lt 9, 17, 23, 0, 0, 0, 0)) ∧
  (∀ f : mE → Prop, w_o (mft MX3_search 17) f = f (.aload_n 0, 18, 0, 0, 0, 0, 0)) ∧
  (∀ f : mE → Prop, w_o (mft MX3_search 18) f = f (.iload_n 3, 19, 3, 0, 0, 0, 0)) ∧
  (∀ f : mE → Prop, w_o (mft MX3_search 19) f = f (.invokevirtual 71, 22, 42, 1, 3, 0, 0)) ∧
  (∀ f : mE → Prop, w_o (mft MX3_search 22) f = f (.return_, 23, 0, 0, 0, 0, 0)) ∧
  (∀ f : mE → Prop, w_o (mft MX3_search 23) f = f (.aload_n 0, 24, 0, 0, 0, 0, 0)) ∧
  (∀ f : mE → Prop, w_o (mft MX3_search 24) f = f (.getfield 12, 27, 3, 0, 0, 0, 0)) ∧
  (∀ f : mE → Prop, w_o (mft MX3_search 27) f = f (.getfield 75, 30, 0, 1, 0, 0, 0)) ∧
  (∀ f : mE → Prop, w_o (mft MX3_search 30) f = f (.iload_n 1, 31, 1, 0, 0, 0, 0)) ∧
  (∀ f : mE → Prop, w_o (mft MX3_search 31) f = f (.iaload, 32, 0, 0, 0, 0, 0)) ∧
  (∀ f : mE → Prop, w_o (mft MX3_search 32) f = f (.istore 4, 34, 4, 0, 0, 0, 0)) ∧
  (∀ f : mE → Prop, w_o (mft MX3_search 34) f = f (.aload_n 0, 35, 0, 0, 0, 0, 0)) ∧
  (∀ f : mE → Prop, w_o (mft MX3_search 35) f = f (.getfield 12, 38, 3, 0, 0, 0, 0)) ∧
  (∀ f : mE → Prop, w_o (mft MX3_search 38) f = f (.getfield 56, 41, 0, 0, 0, 0, 0)) ∧
  (∀ f : mE → Prop, w_o (mft MX3_search 41) f = f (.iload_n 1, 42, 1, 0, 0, 0, 0)) ∧
  (∀ f : mE → Prop, w_o (mft MX3_search 42) f = f (.iaload, 43, 0, 0, 0, 0, 0)) ∧
  (∀ f : mE → Prop, w_o (mft MX3_search 43) f = f (.ifCond .ne 22, 46, 65, 0, 0, 0, 0)) ∧
  (∀ f : mE → Prop, w_o (mft MX3_search 46) f = f (.aload_n 0, 47, 0, 0, 0, 0, 0)) ∧
  (∀ f : mE → Prop, w_o (mft MX3_search 47) f = f (.iload_n 1, 48, 1, 0, 0, 0, 0)) ∧
  (∀ f : mE → Prop, w_o (mft MX3_search 48) f = f (.iload 4, 50, 4, 0, 0, 0, 0)) ∧
  (∀ f : mE → Prop, w_o (mft MX3_search 50) f = f (.invokevirtual 78, 53, 43, 2, 3, 0, 0)) ∧
  (∀ f : mE → Prop, w_o (mft MX3_search 53) f = f (.aload_n 0, 54, 0, 0, 0, 0, 0)) ∧
  (∀ f : mE → Prop, w_o (mft MX3_search 54) f = f (.iload_n 1, 55, 1, 0, 0, 0, 0)) ∧
  (∀ f : mE → Prop, w_o (mft MX3_search 55) f = f (.iconst 1, 56, 0, 0, 0, (1), 0)) ∧
  (∀ f : mE → Prop, w_o (mft MX3_search 56) f = f (.iadd, 57, 0, 0, 0, 0, 0)) ∧
  (∀ f : mE → Prop, w_o (mft MX3_search 57) f = f (.iload_n 2, 58, 2, 0, 0, 0, 0)) ∧
  (∀ f : mE → Prop, w_o (mft MX3_search 58) f = f (.iload_n 3, 59, 3, 0, 0, 0, 0)) ∧
  (∀ f : mE → Prop, w_o (mft MX3_search 59) f = f (.invokevirtual 46, 62, 39, 3, 3, 0, 0)) ∧
  (∀ f : mE → Prop, w_o (mft MX3_search 62) f = f (.goto 49, 65, 111, 0, 0, 0, 0)) ∧
  (∀ f : mE → Prop, w_o (mft MX3_search 65) f = f (.aload_n 0, 66, 0, 0, 0, 0, 0)) ∧
  (∀ f : mE → Prop, w_o (mft MX3_search 66) f = f (.getfield 20, 69, 3, 1, 0, 0, 0)) ∧
  (∀ f : mE → Prop, w_o (mft MX3_search 69) f = f (.iload_n 1, 70, 1, 0, 0, 0, 0)) ∧
  (∀ f : mE → Prop, w_o (mft MX3_search 70) f = f (.aaload, 71, 3, 0, 0, 0, 0)) ∧
  (∀ f : mE → Prop, w_o (mft MX3_search 71) f = f (.iload 4, 73, 4, 0, 0, 0, 0)) ∧
  (∀ f : mE → Prop, w_o (mft MX3_search 73) f = f (.iaload, 74, 0, 0, 0, 0, 0)) ∧
  (∀ f : mE → Prop, w_o (mft MX3_search 74) f = f (.iload 4, 76, 4, 0, 0, 0, 0)) ∧
  (∀ f : mE → Prop, w_o (mft MX3_search 76) f = f (.iconst 1, 77, 0, 0, 0, (1), 0)) ∧
  (∀ f : mE → Prop, w_o (mft MX3_search 77) f = f (.iadd, 78, 0, 0, 0, 0, 0)) ∧
  (∀ f : mE → Prop, w_o (mft MX3_search 78) f = f (.if_icmp .ne 13, 81, 91, 0, 0, 0, 0)) ∧
  (∀ f : mE → Prop, w_o (mft MX3_search 81) f = f (.aload_n 0, 82, 0, 0, 0, 0, 0)) ∧
  (∀ f : mE → Prop, w_o (mft MX3_search 82) f = f (.iload_n 1, 83, 1, 0, 0, 0, 0)) ∧
  (∀ f : mE → Prop, w_o (mft MX3_search 83) f = f (.iload_n 2, 84, 2, 0, 0, 0, 0)) ∧
  (∀ f : mE → Prop, w_o (mft MX3_search 84) f = f (.iload_n 3, 85, 3, 0, 0, 0, 0)) ∧
  (∀ f : mE → Prop, w_o (mft MX3_search 85) f = f (.invokevirtual 82, 88, 40, 3, 3, 0, 0)) ∧
  (∀ f : mE → Prop, w_o (mft MX3_search 88) f = f (.goto 23, 91, 111, 0, 0, 0, 0)) ∧
  (∀ f : mE → Prop, w_o (mft MX3_search 91) f = f (.aload_n 0, 92, 0, 0, 0, 0, 0)) ∧
  (∀ f : mE → Prop, w_o (mft MX3_search 92) f = f (.getfield 12, 95, 3, 0, 0, 0, 0)) ∧
  (∀ f : mE → Prop, w_o (mft MX3_search 95) f = f (.getfield 56, 98, 0, 0, 0, 0, 0)) ∧
  (∀ f : mE → Prop, w_o (mft MX3_search 98) f = f (.iload_n 1, 99, 1, 0, 0, 0, 0)) ∧
  (∀ f : mE → Prop, w_o (mft MX3_search 99) f = f (.iaload, 100, 0, 0, 0, 0, 0)) ∧
  (∀ f : mE → Prop, w_o (mft MX3_search 100) f = f (.iconst 1, 101, 0, 0, 0, (1), 0)) ∧
  (∀ f : mE → Prop, w_o (mft MX3_search 101) f = f (.if_icmp .ne 10, 104, 111, 0, 0, 0, 0)) ∧
  (∀ f : mE → Prop, w_o (mft MX3_search 104) f = f (.aload_n 0, 105, 0, 0, 0, 0, 0)) ∧
  (∀ f : mE → Prop, w_o (mft MX3_search 105) f = f (.iload_n 1, 106, 1, 0, 0, 0, 0)) ∧
  (∀ f : mE → Prop, w_o (mft MX3_search 106) f = f (.iload_n 2, 107, 2, 0, 0, 0, 0)) ∧
  (∀ f : mE → Prop, w_o (mft MX3_search 107) f = f (.iload_n 3, 108, 3, 0, 0, 0, 0)) ∧
  (∀ f : mE → Prop, w_o (mft MX3_search 108) f = f (.invokevirtual 85, 111, 41, 3, 3, 0, 0)) ∧
  (∀ f : mE → Prop, w_o (mft MX3_search 111) f = f (.return_, 112, 0, 0, 0, 0, 0)) := ⟨fun _ => rfl, fun _ => rfl, fun _ => rfl, fun _ => rfl, fun _ => rfl, fun _ => rfl, fun _ => rfl, fun _ => rfl, fun _ => rfl, fun _ => rfl, fun _ => rfl, fun _ => rfl, fun _ => rfl, fun _ => rfl, fun _ => rfl, fun _ => rfl, fun _ => rfl, fun _ => rfl, fun _ => rfl, fun _ => rfl, fun _ => rfl, fun _ => rfl, fun _ => rfl, fun _ => rfl, fun _ => rfl, fun _ => rfl, fun _ => rfl, fun _ => rfl, fun _ => rfl, fun _ => rfl, fun _ => rfl, fun _ => rfl, fun _ => rfl, fun _ => rfl, fun _ => rfl, fun _ => rfl, fun _ => rfl, fun _ => rfl, fun _ => rfl, fun _ => rfl, fun _ => rfl, fun _ => rfl, fun _ => rfl, fun _ => rfl, fun _ => rfl, fun _ => rfl, fun _ => rfl, fun _ => rfl, fun _ => rfl, fun _ => rfl, fun _ => rfl, fun _ => rfl, fun _ => rfl, fun _ => rfl, fun _ => rfl, fun _ => rfl, fun _ => rfl, fun _ => rfl, fun _ => rfl, fun _ => rfl, fun _ => rfl, fun _ => rfl, fun _ => rfl, fun _ => rfl, fun _ => rfl⟩
set_option maxRecDepth 100000 in
theorem gd_X3_search : mGood MX3_search := ⟨by decide +kernel, by decide +kernel, by decide +kernel⟩
set_option maxRecDepth 100000 in
set_option maxHeartbeats 4000000 in
theorem ft_X3_searchPaired : (∀ f : mE → Prop, w_o (mft MX3_searchPaired 0) f = f (.aload_n 0, 1, 0, 0, 0, 0, 0)) ∧
  (∀ f : mE → Prop, w_o (mft MX3_searchPaired 1) f = f (.getfield 12, 4, 3, 0, 0, 0, 0)) ∧
  (∀ f : mE → Prop, w_o (mft MX3_searchPaired 4) f = f (.getfield 56, 7, 0, 0, 0, 0, 0)) ∧
  (∀ f : mE → Prop, w_o (mft MX3_searchPaired 7) f = f (.iload_n 1, 8, 1, 0, 0, 0, 0)) ∧
  (∀ f : mE → Prop, w_o (mft MX3_searchPaired 8) f = f (.iaload, 9, 0, 0, 0, 0, 0)) ∧
  (∀ f : mE → Prop, w_o (mft MX3_searchPaired 9) f = f (.iconst 2, 10, 0, 0, 0, (2), 0)) ∧
  (∀ f : mE → Prop, w_o (mft MX3_searchPaired 10) f = f (.if_icmp .ne 26, 13, 36, 0, 0, 0, 0)) ∧
  (∀ f : mE → Prop, w_o (mft MX3_searchPaired 13) f = f (.aload_n 0, 14, 0, 0, 0, 0, 0)) ∧
  (∀ f : mE → Prop, w_o (mft MX3_searchPaired 14) f = f (.iload_n 1, 15, 1, 0, 0, 0, 0)) ∧
  (∀ f : mE → Prop, w_o (mft MX3_searchPaired 15) f = f (.aload_n 0, 16, 0, 0, 0, 0, 0)) ∧
  (∀ f : mE → Prop, w_o (mft MX3_searchPaired 16) f = f (.getfield 12, 19, 3, 0, 0, 0, 0)) ∧
  (∀ f : mE → Prop, w_o (mft MX3_searchPaired 19) f = f (.getfield 75, 22, 0, 1, 0, 0, 0)) ∧
  (∀ f : mE → Prop, w_o (mft MX3_searchPaired 22) f = f (.iload_n 1, 23, 1, 0, 0, 0, 0)) ∧
  (∀ f : mE → Prop, w_o (mft MX3_searchPaired 23) f = f (.iaload, 24, 0, 0, 0, 0, 0)) ∧
  (∀ f : mE → Prop, w_o (mft MX3_searchPaired 24) f = f (.invokevirtual 88, 27, 44, 2, 3, 0, 0)) ∧
  (∀ f : mE → Prop, w_o (mft MX3_searchPaired 27) f = f (.aload_n 0, 28, 0, 0, 0, 0, 0)) ∧
  (∀ f : mE → Prop, w_o (mft MX3_searchPaired 28) f = f (.iload_n 1, 29, 1, 0, 0, 0, 0)) ∧
  (∀ f : mE → Prop, w_o (mft MX3_searchPaired 29) f = f (.iconst 1, 30, 0, 0, 0, (1), 0)) ∧
  (∀ f : mE → Prop, w_o (mft MX3_searchPaired 30) f = f (.iadd, 31, 0, 0, 0, 0, 0)) ∧
  (∀ f : mE → Prop, w_o (mft MX3_searchPaired 31) f = f (.iload_n 2, 32, 2, 0, 0, 0, 0)) ∧
  (∀ f : mE → Prop, w_o (mft MX3_searchPaired 32) f = f (.iload_n 3, 33, 3, 0, 0, 0, 0)) ∧
  (∀ f : mE → Prop, w_o (mft MX3_searchPaired 33) f = f (.invokevirtual 46, 36, 39, 3, 3, 0, 0)) ∧
  (∀ f : mE → Prop, w_o (mft MX3_searchPaired 36) f = f (.return_, 37, 0, 0, 0, 0, 0)) := ⟨fun _ => rfl, fun _ => rfl, fun _ => rfl, fun _ => rfl, fun _ => rfl, fun _ => rfl, fun _ => rfl, fun _ => rfl, fun _ => rfl, fun _ => rfl, fun _ => rfl, fun _ => rfl, fun _ => rfl, fun _ => rfl, fun _ => rfl, fun _ => rfl, fun _ => rfl, fun _ => rfl, fun _ => rfl, fun _ => rfl, fun _ => rfl, fun _ => rfl, fun _ => rfl⟩
set_option maxRecDepth 100000 in
theorem gd_X3_searchPaired : mGood MX3_searchPaired := ⟨by decide +kernel, by decide +kernel, by decide +kernel⟩
set_option maxRecDepth 100000 in
set_option maxHeartbeats 4000000 in
theorem ft_X3_searchCross : (∀ f : mE → Prop, w_o (mft MX3_searchCross 0) f = f (.aload_n 0, 1, 0, 0, 0, 0, 0)) ∧
  (∀ f : mE → Prop, w_o (mft MX3_searchCross 1) f = f (.getfield 12, 4, 3, 0, 0, 0, 0)) ∧
  (∀ f : mE → Prop, w_o (mft MX3_searchCross 4) f = f (.getfield 75, 7, 0, 1, 0, 0, 0)) ∧
  (∀ f : mE → Prop, w_o (mft MX3_searchCross 7) f = f (.iload_n 1, 8, 1, 0, 0, 0, 0)) ∧
  (∀ f : mE → Prop, w_o (mft MX3_searchCross 8) f = f (.iaload, 9, 0, 0, 0, 0, 0)) ∧
  (∀ f : mE → Prop, w_o (mft MX3_searchCross 9) f = f (.istore 4, 11, 4, 0, 0, 0, 0)) ∧
  (∀ f : mE → Prop, w_o (mft MX3_searchCross 11) f = f (.aload_n 0, 12, 0, 0, 0, 0, 0)) ∧
  (∀ f : mE → Prop, w_o (mft MX3_searchCross 12) f = f (.iload_n 1, 13, 1, 0, 0, 0, 0)) ∧
  (∀ f : mE → Prop, w_o (mft MX3_searchCross 13) f = f (.iload 4, 15, 4, 0, 0, 0, 0)) ∧
  (∀ f : mE → Prop, w_o (mft MX3_searchCross 15) f = f (.invokevirtual 91, 18, 45, 2, 3, 0, 0)) ∧
  (∀ f : mE → Prop, w_o (mft MX3_searchCross 18) f = f (.aload_n 0, 19, 0, 0, 0, 0, 0)) ∧
  (∀ f : mE → Prop, w_o (mft MX3_searchCross 19) f = f (.iload_n 1, 20, 1, 0, 0, 0, 0)) ∧
  (∀ f : mE → Prop, w_o (mft MX3_searchCross 20) f = f (.iconst 1, 21, 0, 0, 0, (1), 0)) ∧
  (∀ f : mE → Prop, w_o (mft MX3_searchCross 21) f = f (.iadd, 22, 0, 0, 0, 0, 0)) ∧
  (∀ f : mE → Prop, w_o (mft MX3_searchCross 22) f = f (.iload_n 2, 23, 2, 0, 0, 0, 0)) ∧
  (∀ f : mE → Prop, w_o (mft MX3_searchCross 23) f = f (.iconst 1, 24, 0, 0, 0, (1), 0)) ∧
  (∀ f : mE → Prop, w_o (mft MX3_searchCross 24) f = f (.iadd, 25, 0, 0, 0, 0, 0)) ∧
  (∀ f : mE → Prop, w_o (mft MX3_searchCross 25) f = f (.iload_n 3, 26, 3, 0, 0, 0, 0)) ∧
  (∀ f : mE → Prop, w_o (mft MX3_searchCross 26) f = f (.invokevirtual 46, 29, 39, 3, 3, 0, 0)) ∧
  (∀ f : mE → Prop, w_o (mft MX3_searchCross 29) f = f (.aload_n 0, 30, 0, 0, 0, 0, 0)) ∧
  (∀ f : mE → Prop, w_o (mft MX3_searchCross 30) f = f (.getfield 31, 33, 3, 4, 0, 0, 0)) ∧
  (∀ f : mE → Prop, w_o (mft MX3_searchCross 33) f = f (.ifCond .eq 11, 36, 44, 0, 0, 0, 0)) ∧
  (∀ f : mE → Prop, w_o (mft MX3_searchCross 36) f = f (.aload_n 0, 37, 0, 0, 0, 0, 0)) ∧
  (∀ f : mE → Prop, w_o (mft MX3_searchCross 37) f = f (.getfield 35, 40, 3, 5, 0, 0, 0)) ∧
  (∀ f : mE → Prop, w_o (mft MX3_searchCross 40) f = f (.ifCond .le 4, 43, 44, 0, 0, 0, 0)) ∧
  (∀ f : mE → Prop, w_o (mft MX3_searchCross 43) f = f (.return_, 44, 0, 0, 0, 0, 0)) ∧
  (∀ f : mE → Prop, w_o (mft MX3_searchCross 44) f = f (.aload_n 0, 45, 0, 0, 0, 0, 0)) ∧
  (∀ f : mE → Prop, w_o (mft MX3_searchCross 45) f = f (.getfield 23, 48, 3, 2, 0, 0, 0)) ∧
  (∀ f : mE → Prop, w_o (mft MX3_searchCross 48) f = f (.iload_n 1, 49, 1, 0, 0, 0, 0)) ∧
  (∀ f : mE → Prop, w_o (mft MX3_searchCross 49) f = f (.baload, 50, 2, 0, 0, 0, 0)) ∧
  (∀ f : mE → Prop, w_o (mft MX3_searchCross 50) f = f (.ifCond .eq 49, 53, 99, 0, 0, 0, 0)) ∧
  (∀ f : mE → Prop, w_o (mft MX3_searchCross 53) f = f (.aload_n 0, 54, 0, 0, 0, 0, 0)) ∧
  (∀ f : mE → Prop, w_o (mft MX3_searchCross 54) f = f (.iload_n 1, 55, 1, 0, 0, 0, 0)) ∧
  (∀ f : mE → Prop, w_o (mft MX3_searchCross 55) f = f (.iload 4, 57, 4, 0, 0, 0, 0)) ∧
  (∀ f : mE → Prop, w_o (mft MX3_searchCross 57) f = f (.invokevirtual 94, 60, 46, 2, 3, 0, 0)) ∧
  (∀ f : mE → Prop, w_o (mft MX3_searchCross 60) f = f (.ifCond .ne 39, 63, 99, 0, 0, 0, 0)) ∧
  (∀ f : mE → Prop, w_o (mft MX3_searchCross 63) f = f (.aload_n 0, 64, 0, 0, 0, 0, 0)) ∧
  (∀ f : mE → Prop, w_o (mft MX3_searchCross 64) f = f (.getfield 20, 67, 3, 1, 0, 0, 0)) ∧
  (∀ f : mE → Prop, w_o (mft MX3_searchCross 67) f = f (.iload_n 1, 68, 1, 0, 0, 0, 0)) ∧
  (∀ f : mE → Prop, w_o (mft MX3_searchCross 68) f = f (.aaload, 69, 3, 0, 0, 0, 0)) ∧
  (∀ f : mE → Prop, w_o (mft MX3_searchCross 69) f = f (.iconst 0, 70, 0, 0, 0, (0), 0)) ∧
  (∀ f : mE → Prop, w_o (mft MX3_searchCross 70) f = f (.aload_n 0, 71, 0, 0, 0, 0, 0)) ∧
  (∀ f : mE → Prop, w_o (mft MX3_searchCross 71) f = f (.getfield 20, 74, 3, 1, 0, 0, 0)) ∧
  (∀ f : mE → Prop, w_o (mft MX3_searchCross 74) f = f (.iload_n 1, 75, 1, 0, 0, 0, 0)) ∧
  (∀ f : mE → Prop, w_o (mft MX3_searchCross 75) f = f (.iconst 1, 76, 0, 0, 0, (1), 0)) ∧
  (∀ f : mE → Prop, w_o (mft MX3_searchCross 76) f = f (.iadd, 77, 0, 0, 0, 0, 0)) ∧
  (∀ f : mE → Prop, w_o (mft MX3_searchCross 77) f = f (.aaload, 78, 3, 0, 0, 0, 0)) ∧
  (∀ f : mE → Prop, w_o (mft MX3_searchCross 78) f = f (.iconst 0, 79, 0, 0, 0, (0), 0)) ∧
  (∀ f : mE → Prop, w_o (mft MX3_searchCross 79) f = f (.bipush 10, 81, 0, 0, 0, (10), 0)) ∧
  (∀ f : mE → Prop, w_o (mft MX3_searchCross 81) f = f (.invokestatic 98, 84, 1000, 0, 0, 0, 0)) ∧
  (∀ f : mE → Prop, w_o (mft MX3_searchCross 84) f = f (.aload_n 0, 85, 0, 0, 0, 0, 0)) ∧
  (∀ f : mE → Prop, w_o (mft MX3_searchCross 85) f = f (.iload_n 1, 86, 1, 0, 0, 0, 0)) ∧
  (∀ f : mE → Prop, w_o (mft MX3_searchCross 86) f = f (.iconst 1, 87, 0, 0, 0, (1), 0)) ∧
  (∀ f : mE → Prop, w_o (mft MX3_searchCross 87) f = f (.iadd, 88, 0, 0, 0, 0, 0)) ∧
  (∀ f : mE → Prop, w_o (mft MX3_searchCross 88) f = f (.iload_n 2, 89, 2, 0, 0, 0, 0)) ∧
  (∀ f : mE → Prop, w_o (mft MX3_searchCross 89) f = f (.iconst 1, 90, 0, 0, 0, (1), 0)) ∧
  (∀ f : mE → Prop, w_o (mft MX3_searchCross 90) f = f (.iadd, 91, 0, 0, 0, 0, 0)) ∧
  (∀ f : mE → Prop, w_o (mft MX3_searchCross 91) f = f (.iload_n 3, 92, 3, 0, 0, 0, 0)) ∧
  (∀ f : mE → Prop, w_o (mft MX3_searchCross 92) f = f (.iconst 1, 93, 0, 0, 0, (1), 0)) ∧
  (∀ f : mE → Prop, w_o (mft MX3_searchCross 93) f = f (.iload_n 2, 94, 2, 0, 0, 0, 0)) ∧
  (∀ f : mE → Prop, w_o (mft MX3_searchCross 94) f = f (.ishl, 95, 0, 0, 0, 0, 0)) ∧
  (∀ f : mE → Prop, w_o (mft MX3_searchCross 95) f = f (.ior, 96, 0, 0, 0, 0, 0)) ∧
  (∀ f : mE → Prop, w_o (mft MX3_searchCross 96) f = f (.invokevirtual 46, 99, 39, 3, 3, 0, 0)) ∧
  (∀ f : mE → Prop, w_o (mft MX3_searchCross 99) f = f (.return_, 100, 0, 0, 0, 0, 0)) := ⟨fun _ => rfl, fun _ => rfl, fun _ => rfl, fun _ => rfl, fun _ => rfl, fun _ => rfl, fun _ => rfl, fun _ => rfl, fun _ => rfl, fun _ => rfl, fun _ => rfl, fun _ => rfl, fun _ => rfl, fun _ => rfl, fun _ => rfl, fun _ => rfl, fun _ => rfl, fun _ => rfl, fun _ => rfl, fun _ => rfl, fun _ => rfl, fun _ => rfl, fun _ => rfl, fun _ => rfl, fun _ => rfl, fun _ => rfl, fun _ => rfl, fun _ => rfl, fun _ => rfl, fun _ => rfl, fun _ => rfl, fun _ => rfl, fun _ => rfl, fun _ => rfl, fun _ => rfl, fun _ => rfl, fun _ => rfl, fun _ => rfl, fun _ => rfl, fun _ => rfl, fun _ => rfl, fun _ => rfl, fun _ => rfl, fun _ => rfl, fun _ => rfl, fun _ => rfl, fun _ => rfl, fun _ => rfl, fun _ => rfl, fun _ => rfl, fun _ => rfl, fun _ => rfl, fun _ => rfl, fun _ => rfl, fun _ => rfl, fun _ => rfl, fun _ => rfl, fun _ => rfl, fun _ => rfl, fun _ => rfl, fun _ => rfl, fun _ => rfl, fun _ => rfl, fun _ => rfl⟩
set_option maxRecDepth 100000 in
theorem gd_X3_searchCross : mGood MX3_searchCross := ⟨by decide +kernel, by decide +kernel, by decide +kernel⟩
set_option maxRecDepth 100000 in
set_option maxHeartbeats 4000000 in
theorem ft_X3_note : (∀ f : mE → Prop, w_o (mft MX3_note 0) f = f (.aload_n 0, 1, 0, 0, 0, 0, 0)) ∧
  (∀ f : mE → Prop, w_o (mft MX3_note 1) f = f (.getfield 35, 4, 3, 5, 0, 0, 0)) ∧
  (∀ f : mE → Prop, w_o (mft MX3_note 4) f = f (.ifCond .ne 8, 7, 12, 0, 0, 0, 0)) ∧
  (∀ f : mE → Prop, w_o (mft MX3_note 7) f = f (.aload_n 0, 8, 0, 0, 0, 0, 0)) ∧
  (∀ f : mE → Prop, w_o (mft MX3_note 8) f = f (.iload_n 1, 9, 1, 0, 0, 0, 0)) ∧
  (∀ f : mE → Prop, w_o (mft MX3_note 9) f = f (.putfield 39, 12, 3, 6, 0, 0, 0)) ∧
  (∀ f : mE → Prop, w_o (mft MX3_note 12) f = f (.aload_n 0, 13, 0, 0, 0, 0, 0)) ∧
  (∀ f : mE → Prop, w_o (mft MX3_note 13) f = f (.dup, 14, 0, 0, 0, 0, 0)) ∧
  (∀ f : mE → Prop, w_o (mft MX3_note 14) f = f (.getfield 35, 17, 3, 5, 0, 0, 0)) ∧
  (∀ f : mE → Prop, w_o (mft MX3_note 17) f = f (.iconst 1, 18, 0, 0, 0, (1), 0)) ∧
  (∀ f : mE → Prop, w_o (mft MX3_note 18) f = f (.iadd, 19, 0, 0, 0, 0, 0)) ∧
  (∀ f : mE → Prop, w_o (mft MX3_note 19) f = f (.putfield 35, 22, 3, 5, 0, 0, 0)) ∧
  (∀ f : mE → Prop, w_o (mft MX3_note 22) f = f (.iload_n 1, 23, 1, 0, 0, 0, 0)) ∧
  (∀ f : mE → Prop, w_o (mft MX3_note 23) f = f (.invokestatic 104, 26, 175, 1, 9, 0, 0)) ∧
  (∀ f : mE → Prop, w_o (mft MX3_note 26) f = f (.istore_n 2, 27, 2, 0, 0, 0, 0)) ∧
  (∀ f : mE → Prop, w_o (mft MX3_note 27) f = f (.iload_n 2, 28, 2, 0, 0, 0, 0)) ∧
  (∀ f : mE → Prop, w_o (mft MX3_note 28) f = f (.bipush 12, 30, 0, 0, 0, (12), 0)) ∧
  (∀ f : mE → Prop, w_o (mft MX3_note 30) f = f (.if_icmp .gt 13, 33, 43, 0, 0, 0, 0)) ∧
  (∀ f : mE → Prop, w_o (mft MX3_note 33) f = f (.aload_n 0, 34, 0, 0, 0, 0, 0)) ∧
  (∀ f : mE → Prop, w_o (mft MX3_note 34) f = f (.getfield 27, 37, 3, 3, 0, 0, 0)) ∧
  (∀ f : mE → Prop, w_o (mft MX3_note 37) f = f (.iload_n 2, 38, 2, 0, 0, 0, 0)) ∧
  (∀ f : mE → Prop, w_o (mft MX3_note 38) f = f (.dup2, 39, 0, 0, 0, 0, 0)) ∧
  (∀ f : mE → Prop, w_o (mft MX3_note 39) f = f (.iaload, 40, 0, 0, 0, 0, 0)) ∧
  (∀ f : mE → Prop, w_o (mft MX3_note 40) f = f (.iconst 1, 41, 0, 0, 0, (1), 0)) ∧
  (∀ f : mE → Prop, w_o (mft MX3_note 41) f = f (.iadd, 42, 0, 0, 0, 0, 0)) ∧
  (∀ f : mE → Prop, w_o (mft MX3_note 42) f = f (.iastore, 43, 0, 0, 0, 0, 0)) ∧
  (∀ f : mE → Prop, w_o (mft MX3_note 43) f = f (.return_, 44, 0, 0, 0, 0, 0)) := ⟨fun _ => rfl, fun _ => rfl, fun _ => rfl, fun _ => rfl, fun _ => rfl, fun _ => rfl, fun _ => rfl, fun _ => rfl, fun _ => rfl, fun _ => rfl, fun _ => rfl, fun _ => rfl, fun _ => rfl, fun _ => rfl, fun _ => rfl, fun _ => rfl, fun _ => rfl, fun _ => rfl, fun _ => rfl, fun _ => rfl, fun _ => rfl, fun _ => rfl, fun _ => rfl, fun _ => rfl, fun _ => rfl, fun _ => rfl, fun _ => rfl⟩
set_option maxRecDepth 100000 in
theorem gd_X3_note : mGood MX3_note := ⟨by decide +kernel, by decide +kernel, by decide +kernel⟩
set_option maxRecDepth 100000 in
set_option maxHeartbeats 4000000 in
theorem ft_X3_pairNew : (∀ f : mE → Prop, w_o (mft MX3_pairNew 0) f = f (.aload_n 0, 1, 0, 0, 0, 0, 0)) ∧
  (∀ f : mE → Prop, w_o (mft MX3_pairNew 1) f = f (.getfield 20, 4, 3, 1, 0, 0, 0)) ∧
  (∀ f : mE → Prop, w_o (mft MX3_pairNew 4) f = f (.iload_n 1, 5, 1, 0, 0, 0, 0)) ∧
  (∀ f : mE → Prop, w_o (mft MX3_pairNew 5) f = f (.aaload, 6, 3, 0, 0, 0, 0)) ∧
  (∀ f : mE → Prop, w_o (mft MX3_pairNew 6) f = f (.astore_n 3, 7, 3, 0, 0, 0, 0)) ∧
  (∀ f : mE → Prop, w_o (mft MX3_pairNew 7) f = f (.aload_n 0, 8, 0, 0, 0, 0, 0)) ∧
  (∀ f : mE → Prop, w_o (mft MX3_pairNew 8) f = f (.getfield 20, 11, 3, 1, 0, 0, 0)) ∧
  (∀ f : mE → Prop, w_o (mft MX3_pairNew 11) f = f (.iload_n 1, 12, 1, 0, 0, 0, 0)) ∧
  (∀ f : mE → Prop, w_o (mft MX3_pairNew 12) f = f (.iconst 1, 13, 0, 0, 0, (1), 0)) ∧
  (∀ f : mE → Prop, w_o (mft MX3_pairNew 13) f = f (.iadd, 14, 0, 0, 0, 0, 0)) ∧
  (∀ f : mE → Prop, w_o (mft MX3_pairNew 14) f = f (.aaload, 15, 3, 0, 0, 0, 0)) ∧
  (∀ f : mE → Prop, w_o (mft MX3_pairNew 15) f = f (.astore 4, 17, 4, 0, 0, 0, 0)) ∧
  (∀ f : mE → Prop, w_o (mft MX3_pairNew 17) f = f (.iconst 0, 18, 0, 0, 0, (0), 0)) ∧
  (∀ f : mE → Prop, w_o (mft MX3_pairNew 18) f = f (.istore 5, 20, 5, 0, 0, 0, 0)) ∧
  (∀ f : mE → Prop, w_o (mft MX3_pairNew 20) f = f (.iload 5, 22, 5, 0, 0, 0, 0)) ∧
  (∀ f : mE → Prop, w_o (mft MX3_pairNew 22) f = f (.aload_n 0, 23, 0, 0, 0, 0, 0)) ∧
  (∀ f : mE → Prop, w_o (mft MX3_pairNew 23) f = f (.getfield 12, 26, 3, 0, 0, 0, 0)) ∧
  (∀ f : mE → Prop, w_o (mft MX3_pairNew 26) f = f (.getfield 109, 29, 0, 2, 0, 0, 0)) ∧
  (∀ f : mE → Prop, w_o (mft MX3_pairNew 29) f = f (.iload_n 1, 30, 1, 0, 0, 0, 0)) ∧
  (∀ f : mE → Prop, w_o (mft MX3_pairNew 30) f = f (.iaload, 31, 0, 0, 0, 0, 0)) ∧
  (∀ f : mE → Prop, w_o (mft MX3_pairNew 31) f = f (.if_icmp .ge 48, 34, 79, 0, 0, 0, 0)) ∧
  (∀ f : mE → Prop, w_o (mft MX3_pairNew 34) f = f (.aload_n 3, 35, 3, 0, 0, 0, 0)) ∧
  (∀ f : mE → Prop, w_o (mft MX3_pairNew 35) f = f (.iload 5, 37, 5, 0, 0, 0, 0)) ∧
  (∀ f : mE → Prop, w_o (mft MX3_pairNew 37) f = f (.iaload, 38, 0, 0, 0, 0, 0)) ∧
  (∀ f : mE → Prop, w_o (mft MX3_pairNew 38) f = f (.istore 6, 40, 6, 0, 0, 0, 0)) ∧
  (∀ f : mE → Prop, w_o (mft MX3_pairNew 40) f = f (.aload 4, 42, 4, 0, 0, 0, 0)) ∧
  (∀ f : mE → Prop, w_o (mft MX3_pairNew 42) f = f (.iload 5, 44, 5, 0, 0, 0, 0)) ∧
  (∀ f : mE → Prop, w_o (mft MX3_pairNew 44) f = f (.iload_n 2, 45, 2, 0, 0, 0, 0)) ∧
  (∀ f : mE → Prop, w_o (mft MX3_pairNew 45) f = f (.if_icmp .ge 8, 48, 53, 0, 0, 0, 0)) ∧
  (∀ f : mE → Prop, w_o (mft MX3_pairNew 48) f = f (.iload 5, 50, 5, 0, 0, 0, 0)) ∧
  (∀ f : mE → Prop, w_o (mft MX3_pairNew 50) f = f (.goto 7, 53, 57, 0, 0, 0, 0)) ∧
  (∀ f : mE → Prop, w_o (mft MX3_pairNew 53) f = f (.iload 5, 55, 5, 0, 0, 0, 0)) ∧
  (∀ f : mE → Prop, w_o (mft MX3_pairNew 55) f = f (.iconst 2, 56, 0, 0, 0, (2), 0)) ∧
  (∀ f : mE → Prop, w_o (mft MX3_pairNew 56) f = f (.iadd, 57, 0, 0, 0, 0, 0)) ∧
  (∀ f : mE → Prop, w_o (mft MX3_pairNew 57) f = f (.iload 6, 59, 6, 0, 0, 0, 0)) ∧
  (∀ f : mE → Prop, w_o (mft MX3_pairNew 59) f = f (.iload_n 2, 60, 2, 0, 0, 0, 0)) ∧
  (∀ f : mE → Prop, w_o (mft MX3_pairNew 60) f = f (.if_icmp .ge 8, 63, 68, 0, 0, 0, 0)) ∧
  (∀ f : mE → Prop, w_o (mft MX3_pairNew 63) f = f (.iload 6, 65, 6, 0, 0, 0, 0)) ∧
  (∀ f : mE → Prop, w_o (mft MX3_pairNew 65) f = f (.goto 7, 68, 72, 0, 0, 0, 0)) ∧
  (∀ f : mE → Prop, w_o (mft MX3_pairNew 68) f = f (.iload 6, 70, 6, 0, 0, 0, 0)) ∧
  (∀ f : mE → Prop, w_o (mft MX3_pairNew 70) f = f (.iconst 2, 71, 0, 0, 0, (2), 0)) ∧
  (∀ f : mE → Prop, w_o (mft MX3_pairNew 71) f = f (.iadd, 72, 0, 0, 0, 0, 0)) ∧
  (∀ f : mE → Prop, w_o (mft MX3_pairNew 72) f = f (.iastore, 73, 0, 0, 0, 0, 0)) ∧
  (∀ f : mE → Prop, w_o (mft MX3_pairNew 73) f = f (.iinc 5 1, 76, 5, 0, 0, (1), 0)) ∧
  (∀ f : mE → Prop, w_o (mft MX3_pairNew 76) f = f (.goto (-56), 79, 20, 0, 0, 0, 0)) ∧
  (∀ f : mE → Prop, w_o (mft MX3_pairNew 79) f = f (.aload 4, 81, 4, 0, 0, 0, 0)) ∧
  (∀ f : mE → Prop, w_o (mft MX3_pairNew 81) f = f (.iload_n 2, 82, 2, 0, 0, 0, 0)) ∧
  (∀ f : mE → Prop, w_o (mft MX3_pairNew 82) f = f (.iload_n 2, 83, 2, 0, 0, 0, 0)) ∧
  (∀ f : mE → Prop, w_o (mft MX3_pairNew 83) f = f (.iconst 1, 84, 0, 0, 0, (1), 0)) ∧
  (∀ f : mE → Prop, w_o (mft MX3_pairNew 84) f = f (.iadd, 85, 0, 0, 0, 0, 0)) ∧
  (∀ f : mE → Prop, w_o (mft MX3_pairNew 85) f = f (.iastore, 86, 0, 0, 0, 0, 0)) ∧
  (∀ f : mE → Prop, w_o (mft MX3_pairNew 86) f = f (.aload 4, 88, 4, 0, 0, 0, 0)) ∧
  (∀ f : mE → Prop, w_o (mft MX3_pairNew 88) f = f (.iload_n 2, 89, 2, 0, 0, 0, 0)) ∧
  (∀ f : mE → Prop, w_o (mft MX3_pairNew 89) f = f (.iconst 1, 90, 0, 0, 0, (1), 0)) ∧
  (∀ f : mE → Prop, w_o (mft MX3_pairNew 90) f = f (.iadd, 91, 0, 0, 0, 0, 0)) ∧
  (∀ f : mE → Prop, w_o (mft MX3_pairNew 91) f = f (.iload_n 2, 92, 2, 0, 0, 0, 0)) ∧
  (∀ f : mE → Prop, w_o (mft MX3_pairNew 92) f = f (.iastore, 93, 0, 0, 0, 0, 0)) ∧
  (∀ f : mE → Prop, w_o (mft MX3_pairNew 93) f = f (.return_, 94, 0, 0, 0, 0, 0)) := ⟨fun _ => rfl, fun _ => rfl, fun _ => rfl, fun _ => rfl, fun _ => rfl, fun _ => rfl, fun _ => rfl, fun _ => rfl, fun _ => rfl, fun _ => rfl, fun _ => rfl, fun _ => rfl, fun _ => rfl, fun _ => rfl, fun _ => rfl, fun _ => rfl, fun _ => rfl, fun _ => rfl, fun _ => rfl, fun _ => rfl, fun _ => rfl, fun _ => rfl, fun _ => rfl, fun _ => rfl, fun _ => rfl, fun _ => rfl, fun _ => rfl, fun _ => rfl, fun _ => rfl, fun _ => rfl, fun _ => rfl, fun _ => rfl, fun _ => rfl, fun _ => rfl, fun _ => rfl, fun _ => rfl, fun _ => rfl, fun _ => rfl, fun _ => rfl, fun _ => rfl, fun _ => rfl, fun _ => rfl, fun _ => rfl, fun _ => rfl, fun _ => rfl, fun _ => rfl, fun _ => rfl, fun _ => rfl, fun _ => rfl, fun _ => rfl, fun _ => rfl, fun _ => rfl, fun _ => rfl, fun _ => rfl, fun _ => rfl, fun _ => rfl, fun _ => rfl, fun _ => rfl⟩
set_option maxRecDepth 100000 in
theorem gd_X3_pairNew : mGood MX3_pairNew := ⟨by decide +kernel, by decide +kernel, by decide +kernel⟩
set_option maxRecDepth 100000 in
set_option maxHeartbeats 4000000 in
theorem ft_X3_dropPair : (∀ f : mE → Prop, w_o (mft MX3_dropPair 0) f = f (.aload_n 0, 1, 0, 0, 0, 0, 0)) ∧
  (∀ f : mE → Prop, w_o (mft MX3_dropPair 1) f = f (.getfield 20, 4, 3, 1, 0, 0, 0)) ∧
  (∀ f : mE → Prop, w_o (mft MX3_dropPair 4) f = f (.iload_n 1, 5, 1, 0, 0, 0, 0)) ∧
  (∀ f : mE → Prop, w_o (mft MX3_dropPair 5) f = f (.aaload, 6, 3, 0, 0, 0, 0)) ∧
  (∀ f : mE → Prop, w_o (mft MX3_dropPair 6) f = f (.astore_n 3, 7, 3, 0, 0, 0, 0)) ∧
  (∀ f : mE → Prop, w_o (mft MX3_dropPair 7) f = f (.aload_n 0, 8, 0, 0, 0, 0, 0)) ∧
  (∀ f : mE → Prop, w_o (mft MX3_dropPair 8) f = f (.getfield 20, 11, 3, 1, 0, 0, 0)) ∧
  (∀ f : mE → Prop, w_o (mft MX3_dropPair 11) f = f (.iload_n 1, 12, 1, 0, 0, 0, 0)) ∧
  (∀ f : mE → Prop, w_o (mft MX3_dropPair 12) f = f (.iconst 1, 13, 0, 0, 0, (1), 0)) ∧
  (∀ f : mE → Prop, w_o (mft MX3_dropPair 13) f = f (.iadd, 14, 0, 0, 0, 0, 0)) ∧
  (∀ f : mE → Prop, w_o (mft MX3_dropPair 14) f = f (.aaload, 15, 3, 0, 0, 0, 0)) ∧
  (∀ f : mE → Prop, w_o (mft MX3_dropPair 15) f = f (.astore 4, 17, 4, 0, 0, 0, 0)) ∧
  (∀ f : mE → Prop, w_o (mft MX3_dropPair 17) f = f (.iconst 0, 18, 0, 0, 0, (0), 0)) ∧
  (∀ f : mE → Prop, w_o (mft MX3_dropPair 18) f = f (.istore 5, 20, 5, 0, 0, 0, 0)) ∧
  (∀ f : mE → Prop, w_o (mft MX3_dropPair 20) f = f (.iload 5, 22, 5, 0, 0, 0, 0)) ∧
  (∀ f : mE → Prop, w_o (mft MX3_dropPair 22) f = f (.aload_n 0, 23, 0, 0, 0, 0, 0)) ∧
  (∀ f : mE → Prop, w_o (mft MX3_dropPair 23) f = f (.getfield 12, 26, 3, 0, 0, 0, 0)) ∧
  (∀ f : mE → Prop, w_o (mft MX3_dropPair 26) f = f (.getfield 109, 29, 0, 2, 0, 0, 0)) ∧
  (∀ f : mE → Prop, w_o (mft MX3_dropPair 29) f = f (.iload_n 1, 30, 1, 0, 0, 0, 0)) ∧
  (∀ f : mE → Prop, w_o (mft MX3_dropPair 30) f = f (.iaload, 31, 0, 0, 0, 0, 0)) ∧
  (∀ f : mE → Prop, w_o (mft MX3_dropPair 31) f = f (.if_icmp .ge 62, 34, 93, 0, 0, 0, 0)) ∧
  (∀ f : mE → Prop, w_o (mft MX3_dropPair 34) f = f (.aload_n 3, 35, 3, 0, 0, 0, 0)) ∧
  (∀ f : mE → Prop, w_o (mft MX3_dropPair 35) f = f (.iload 5, 37, 5, 0, 0, 0, 0)) ∧
  (∀ f : mE → Prop, w_o (mft MX3_dropPair 37) f = f (.iaload, 38, 0, 0, 0, 0, 0)) ∧
  (∀ f : mE → Prop, w_o (mft MX3_dropPair 38) f = f (.istore 6, 40, 6, 0, 0, 0, 0)) ∧
  (∀ f : mE → Prop, w_o (mft MX3_dropPair 40) f = f (.iload 5, 42, 5, 0, 0, 0, 0)) ∧
  (∀ f : mE → Prop, w_o (mft MX3_dropPair 42) f = f (.iload_n 2, 43, 2, 0, 0, 0, 0)) ∧
  (∀ f : mE → Prop, w_o (mft MX3_dropPair 43) f = f (.if_icmp .lt 11, 46, 54, 0, 0, 0, 0)) ∧
  (∀ f : mE → Prop, w_o (mft MX3_dropPair 46) f = f (.iload 5, 48, 5, 0, 0, 0, 0)) ∧
  (∀ f : mE → Prop, w_o (mft MX3_dropPair 48) f = f (.iload_n 2, 49, 2, 0, 0, 0, 0)) ∧
  (∀ f : mE → Prop, w_o (mft MX3_dropPair 49) f = f (.iconst 1, 50, 0, 0, 0, (1), 0)) ∧
  (∀ f : mE → Prop, w_o (mft MX3_dropPair 50) f = f (.iadd, 51, 0, 0, 0, 0, 0)) ∧
  (∀ f : mE → Prop, w_o (mft MX3_dropPair 51) f = f (.if_icmp .le 36, 54, 87, 0, 0, 0, 0)) ∧
  (∀ f : mE → Prop, w_o (mft MX3_dropPair 54) f = f (.aload 4, 56, 4, 0, 0, 0, 0)) ∧
  (∀ f : mE → Prop, w_o (mft MX3_dropPair 56) f = f (.iload 5, 58, 5, 0, 0, 0, 0)) ∧
  (∀ f : mE → Prop, w_o (mft MX3_dropPair 58) f = f (.iload_n 2, 59, 2, 0, 0, 0, 0)) ∧
  (∀ f : mE → Prop, w_o (mft MX3_dropPair 59) f = f (.if_icmp .ge 8, 62, 67, 0, 0, 0, 0)) ∧
  (∀ f : mE → Prop, w_o (mft MX3_dropPair 62) f = f (.iload 5, 64, 5, 0, 0, 0, 0)) ∧
  (∀ f : mE → Prop, w_o (mft MX3_dropPair 64) f = f (.goto 7, 67, 71, 0, 0, 0, 0)) ∧
  (∀ f : mE → Prop, w_o (mft MX3_dropPair 67) f = f (.iload 5, 69, 5, 0, 0, 0, 0)) ∧
  (∀ f : mE → Prop, w_o (mft MX3_dropPair 69) f = f (.iconst 2, 70, 0, 0, 0, (2), 0)) ∧
  (∀ f : mE → Prop, w_o (mft MX3_dropPair 70) f = f (.isub, 71, 0, 0, 0, 0, 0)) ∧
  (∀ f : mE → Prop, w_o (mft MX3_dropPair 71) f = f (.iload 6, 73, 6, 0, 0, 0, 0)) ∧
  (∀ f : mE → Prop, w_o (mft MX3_dropPair 73) f = f (.iload_n 2, 74, 2, 0, 0, 0, 0)) ∧
  (∀ f : mE → Prop, w_o (mft MX3_dropPair 74) f = f (.if_icmp .ge 8, 77, 82, 0, 0, 0, 0)) ∧
  (∀ f : mE → Prop, w_o (mft MX3_dropPair 77) f = f (.iload 6, 79, 6, 0, 0, 0, 0)) ∧
  (∀ f : mE → Prop, w_o (mft MX3_dropPair 79) f = f (.goto 7, 82, 86, 0, 0, 0, 0)) ∧
  (∀ f : mE → Prop, w_o (mft MX3_dropPair 82) f = f (.iload 6, 84, 6, 0, 0, 0, 0)) ∧
  (∀ f : mE → Prop, w_o (mft MX3_dropPair 84) f = f (.iconst 2, 85, 0, 0, 0, (2), 0)) ∧
  (∀ f : mE → Prop, w_o (mft MX3_dropPair 85) f = f (.isub, 86, 0, 0, 0, 0, 0)) ∧
  (∀ f : mE → Prop, w_o (mft MX3_dropPair 86) f = f (.iastore, 87, 0, 0, 0, 0, 0)) ∧
  (∀ f : mE → Prop, w_o (mft MX3_dropPair 87) f = f (.iinc 5 1, 90, 5, 0, 0, (1), 0)) ∧
  (∀ f : mE → Prop, w_o (mft MX3_dropPair 90) f = f (.goto (-70), 93, 20, 0, 0, 0, 0)) ∧
  (∀ f : mE → Prop, w_o (mft MX3_dropPair 93) f = f (.return_, 94, 0, 0, 0, 0, 0)) := ⟨fun _ => rfl, fun _ => rfl, fun _ => rfl, fun _ => rfl, fun _ => rfl, fun _ => rfl, fun _ => rfl, fun _ => rfl, fun _ => rfl, fun _ => rfl, fun _ => rfl, fun _ => rfl, fun _ => rfl, fun _ => rfl, fun _ => rfl, fun _ => rfl, fun _ => rfl, fun _ => rfl, fun _ => rfl, fun _ => rfl, fun _ => rfl, fun _ => rfl, fun _ => rfl, fun _ => rfl, fun _ => rfl, fun _ => rfl, fun _ => rfl, fun _ => rfl, fun _ => rfl, fun _ => rfl, fun _ => rfl, fun _ => rfl, fun _ => rfl, fun _ => rfl, fun _ => rfl, fun _ => rfl, fun _ => rfl, fun _ => rfl, fun _ => rfl, fun _ => rfl, fun _ => rfl, fun _ => rfl, fun _ => rfl, fun _ => rfl, fun _ => rfl, fun _ => rfl, fun _ => rfl, fun _ => rfl, fun _ => rfl, fun _ => rfl, fun _ => rfl, fun _ => rfl, fun _ => rfl, fun _ => rfl⟩
set_option maxRecDepth 100000 in
theorem gd_X3_dropPair : mGood MX3_dropPair := ⟨by decide +kernel, by decide +kernel, by decide +kernel⟩
set_option maxRecDepth 100000 in
set_option maxHeartbeats 4000000 in
theorem ft_X3_changePlaces : (∀ f : mE → Prop, w_o (mft MX3_changePlaces 0) f = f (.aload_n 0, 1, 0, 0, 0, 0, 0)) ∧
  (∀ f : mE → Prop, w_o (mft MX3_changePlaces 1) f = f (.getfield 20, 4, 3, 1, 0, 0, 0)) ∧
  (∀ f : mE → Prop, w_o (mft MX3_changePlaces 4) f = f (.iload_n 1, 5, 1, 0, 0, 0, 0)) ∧
  (∀ f : mE → Prop, w_o (mft MX3_changePlaces 5) f = f (.iconst 1, 6, 0, 0, 0, (1), 0)) ∧
  (∀ f : mE → Prop, w_o (mft MX3_changePlaces 6) f = f (.iadd, 7, 0, 0, 0, 0, 0)) ∧
  (∀ f : mE → Prop, w_o (mft MX3_changePlaces 7) f = f (.aaload, 8, 3, 0, 0, 0, 0)) ∧
  (∀ f : mE → Prop, w_o (mft MX3_changePlaces 8) f = f (.astore_n 3, 9, 3, 0, 0, 0, 0)) ∧
  (∀ f : mE → Prop, w_o (mft MX3_changePlaces 9) f = f (.aload_n 0, 10, 0, 0, 0, 0, 0)) ∧
  (∀ f : mE → Prop, w_o (mft MX3_changePlaces 10) f = f (.getfield 20, 13, 3, 1, 0, 0, 0)) ∧
  (∀ f : mE → Prop, w_o (mft MX3_changePlaces 13) f = f (.iload_n 1, 14, 1, 0, 0, 0, 0)) ∧
  (∀ f : mE → Prop, w_o (mft MX3_changePlaces 14) f = f (.aaload, 15, 3, 0, 0, 0, 0)) ∧
  (∀ f : mE → Prop, w_o (mft MX3_changePlaces 15) f = f (.iconst 0, 16, 0, 0, 0, (0), 0)) ∧
  (∀ f : mE → Prop, w_o (mft MX3_changePlaces 16) f = f (.aload_n 3, 17, 3, 0, 0, 0, 0)) ∧
  (∀ f : mE → Prop, w_o (mft MX3_changePlaces 17) f = f (.iconst 0, 18, 0, 0, 0, (0), 0)) ∧
  (∀ f : mE → Prop, w_o (mft MX3_changePlaces 18) f = f (.bipush 10, 20, 0, 0, 0, (10), 0)) ∧
  (∀ f : mE → Prop, w_o (mft MX3_changePlaces 20) f = f (.invokestatic 98, 23, 1000, 0, 0, 0, 0)) ∧
  (∀ f : mE → Prop, w_o (mft MX3_changePlaces 23) f = f (.aload_n 0, 24, 0, 0, 0, 0, 0)) ∧
  (∀ f : mE → Prop, w_o (mft MX3_changePlaces 24) f = f (.getfield 20, 27, 3, 1, 0, 0, 0)) ∧
  (∀ f : mE → Prop, w_o (mft MX3_changePlaces 27) f = f (.iload_n 1, 28, 1, 0, 0, 0, 0)) ∧
  (∀ f : mE → Prop, w_o (mft MX3_changePlaces 28) f = f (.aaload, 29, 3, 0, 0, 0, 0)) ∧
  (∀ f : mE → Prop, w_o (mft MX3_changePlaces 29) f = f (.iload_n 2, 30, 2, 0, 0, 0, 0)) ∧
  (∀ f : mE → Prop, w_o (mft MX3_changePlaces 30) f = f (.iaload, 31, 0, 0, 0, 0, 0)) ∧
  (∀ f : mE → Prop, w_o (mft MX3_changePlaces 31) f = f (.istore 4, 33, 4, 0, 0, 0, 0)) ∧
  (∀ f : mE → Prop, w_o (mft MX3_changePlaces 33) f = f (.aload_n 0, 34, 0, 0, 0, 0, 0)) ∧
  (∀ f : mE → Prop, w_o (mft MX3_changePlaces 34) f = f (.getfield 20, 37, 3, 1, 0, 0, 0)) ∧
  (∀ f : mE → Prop, w_o (mft MX3_changePlaces 37) f = f (.iload_n 1, 38, 1, 0, 0, 0, 0)) ∧
  (∀ f : mE → Prop, w_o (mft MX3_changePlaces 38) f = f (.aaload, 39, 3, 0, 0, 0, 0)) ∧
  (∀ f : mE → Prop, w_o (mft MX3_changePlaces 39) f = f (.iload_n 2, 40, 2, 0, 0, 0, 0)) ∧
  (∀ f : mE → Prop, w_o (mft MX3_changePlaces 40) f = f (.iconst 1, 41, 0, 0, 0, (1), 0)) ∧
  (∀ f : mE → Prop, w_o (mft MX3_changePlaces 41) f = f (.iadd, 42, 0, 0, 0, 0, 0)) ∧
  (∀ f : mE → Prop, w_o (mft MX3_changePlaces 42) f = f (.iaload, 43, 0, 0, 0, 0, 0)) ∧
  (∀ f : mE → Prop, w_o (mft MX3_changePlaces 43) f = f (.istore 5, 45, 5, 0, 0, 0, 0)) ∧
  (∀ f : mE → Prop, w_o (mft MX3_changePlaces 45) f = f (.aload_n 3, 46, 3, 0, 0, 0, 0)) ∧
  (∀ f : mE → Prop, w_o (mft MX3_changePlaces 46) f = f (.iload_n 2, 47, 2, 0, 0, 0, 0)) ∧
  (∀ f : mE → Prop, w_o (mft MX3_changePlaces 47) f = f (.iload 5, 49, 5, 0, 0, 0, 0)) ∧
  (∀ f : mE → Prop, w_o (mft MX3_changePlaces 49) f = f (.iastore, 50, 0, 0, 0, 0, 0)) ∧
  (∀ f : mE → Prop, w_o (mft MX3_changePlaces 50) f = f (.aload_n 3, 51, 3, 0, 0, 0, 0)) ∧
  (∀ f : mE → Prop, w_o (mft MX3_changePlaces 51) f = f (.iload 5, 53, 5, 0, 0, 0, 0)) ∧
  (∀ f : mE → Prop, w_o (mft MX3_changePlaces 53) f = f (.iload_n 2, 54, 2, 0, 0, 0, 0)) ∧
  (∀ f : mE → Prop, w_o (mft MX3_changePlaces 54) f = f (.iastore, 55, 0, 0, 0, 0, 0)) ∧
  (∀ f : mE → Prop, w_o (mft MX3_changePlaces 55) f = f (.aload_n 3, 56, 3, 0, 0, 0, 0)) ∧
  (∀ f : mE → Prop, w_o (mft MX3_changePlaces 56) f = f (.iload_n 2, 57, 2, 0, 0, 0, 0)) ∧
  (∀ f : mE → Prop, w_o (mft MX3_changePlaces 57) f = f (.iconst 1, 58, 0, 0, 0, (1), 0)) ∧
  (∀ f : mE → Prop, w_o (mft MX3_changePlaces 58) f = f (.iadd, 59, 0, 0, 0, 0, 0)) ∧
  (∀ f : mE → Prop, w_o (mft MX3_changePlaces 59) f = f (.iload 4, 61, 4, 0, 0, 0, 0)) ∧
  (∀ f : mE → Prop, w_o (mft MX3_changePlaces 61) f = f (.iastore, 62, 0, 0, 0, 0, 0)) ∧
  (∀ f : mE → Prop, w_o (mft MX3_changePlaces 62) f = f (.aload_n 3, 63, 3, 0, 0, 0, 0)) ∧
  (∀ f : mE → Prop, w_o (mft MX3_changePlaces 63) f = f (.iload 4, 65, 4, 0, 0, 0, 0)) ∧
  (∀ f : mE → Prop, w_o (mft MX3_changePlaces 65) f = f (.iload_n 2, 66, 2, 0, 0, 0, 0)) ∧
  (∀ f : mE → Prop, w_o (mft MX3_changePlaces 66) f = f (.iconst 1, 67, 0, 0, 0, (1), 0)) ∧
  (∀ f : mE → Prop, w_o (mft MX3_changePlaces 67) f = f (.iadd, 68, 0, 0, 0, 0, 0)) ∧
  (∀ f : mE → Prop, w_o (mft MX3_changePlaces 68) f = f (.iastore, 69, 0, 0, 0, 0, 0)) ∧
  (∀ f : mE → Prop, w_o (mft MX3_changePlaces 69) f = f (.return_, 70, 0, 0, 0, 0, 0)) := ⟨fun _ => rfl, fun _ => rfl, fun _ => rfl, fun _ => rfl, fun _ => rfl, fun _ => rfl, fun _ => rfl, fun _ => rfl, fun _ => rfl, fun _ => rfl, fun _ => rfl, fun _ => rfl, fun _ => rfl, fun _ => rfl, fun _ => rfl, fun _ => rfl, fun _ => rfl, fun _ => rfl, fun _ => rfl, fun _ => rfl, fun _ => rfl, fun _ => rfl, fun _ => rfl, fun _ => rfl, fun _ => rfl, fun _ => rfl, fun _ => rfl, fun _ => rfl, fun _ => rfl, fun _ => rfl, fun _ => rfl, fun _ => rfl, fun _ => rfl, fun _ => rfl, fun _ => rfl, fun _ => rfl, fun _ => rfl, fun _ => rfl, fun _ => rfl, fun _ => rfl, fun _ => rfl, fun _ => rfl, fun _ => rfl, fun _ => rfl, fun _ => rfl, fun _ => rfl, fun _ => rfl, fun _ => rfl, fun _ => rfl, fun _ => rfl, fun _ => rfl, fun _ => rfl, fun _ => rfl⟩
set_option maxRecDepth 100000 in
theorem gd_X3_changePlaces : mGood MX3_changePlaces := ⟨by decide +kernel, by decide +kernel, by decide +kernel⟩
set_option maxRecDepth 100000 in
set_option maxHeartbeats 4000000 in
theorem ft_X3_interlocked : (∀ f : mE → Prop, w_o (mft MX3_interlocked 0) f = f (.aload_n 0, 1, 0, 0, 0, 0, 0)) ∧
  (∀ f : mE → Prop, w_o (mft MX3_interlocked 1) f = f (.getfield 20, 4, 3, 1, 0, 0, 0)) ∧
  (∀ f : mE → Prop, w_o (mft MX3_interlocked 4) f = f (.iload_n 1, 5, 1, 0, 0, 0, 0)) ∧
  (∀ f : mE → Prop, w_o (mft MX3_interlocked 5) f = f (.aaload, 6, 3, 0, 0, 0, 0)) ∧
  (∀ f : mE → Prop, w_o (mft MX3_interlocked 6) f = f (.iload_n 2, 7, 2, 0, 0, 0, 0)) ∧
  (∀ f : mE → Prop, w_o (mft MX3_interlocked 7) f = f (.iaload, 8, 0, 0, 0, 0, 0)) ∧
  (∀ f : mE → Prop, w_o (mft MX3_interlocked 8) f = f (.istore_n 3, 9, 3, 0, 0, 0, 0)) ∧
  (∀ f : mE → Prop, w_o (mft MX3_interlocked 9) f = f (.iload_n 2, 10, 2, 0, 0, 0, 0)) ∧
  (∀ f : mE → Prop, w_o (mft MX3_interlocked 10) f = f (.iload_n 3, 11, 3, 0, 0, 0, 0)) ∧
  (∀ f : mE → Prop, w_o (mft MX3_interlocked 11) f = f (.invokestatic 112, 14, 1011, 0, 0, 0, 0)) ∧
  (∀ f : mE → Prop, w_o (mft MX3_interlocked 14) f = f (.istore 4, 16, 4, 0, 0, 0, 0)) ∧
  (∀ f : mE → Prop, w_o (mft MX3_interlocked 16) f = f (.iload_n 2, 17, 2, 0, 0, 0, 0)) ∧
  (∀ f : mE → Prop, w_o (mft MX3_interlocked 17) f = f (.iload_n 3, 18, 3, 0, 0, 0, 0)) ∧
  (∀ f : mE → Prop, w_o (mft MX3_interlocked 18) f = f (.invokestatic 118, 21, 1010, 0, 0, 0, 0)) ∧
  (∀ f : mE → Prop, w_o (mft MX3_interlocked 21) f = f (.istore 5, 23, 5, 0, 0, 0, 0)) ∧
  (∀ f : mE → Prop, w_o (mft MX3_interlocked 23) f = f (.aload_n 0, 24, 0, 0, 0, 0, 0)) ∧
  (∀ f : mE → Prop, w_o (mft MX3_interlocked 24) f = f (.getfield 20, 27, 3, 1, 0, 0, 0)) ∧
  (∀ f : mE → Prop, w_o (mft MX3_interlocked 27) f = f (.iload_n 1, 28, 1, 0, 0, 0, 0)) ∧
  (∀ f : mE → Prop, w_o (mft MX3_interlocked 28) f = f (.aaload, 29, 3, 0, 0, 0, 0)) ∧
  (∀ f : mE → Prop, w_o (mft MX3_interlocked 29) f = f (.iload_n 2, 30, 2, 0, 0, 0, 0)) ∧
  (∀ f : mE → Prop, w_o (mft MX3_interlocked 30) f = f (.iconst 1, 31, 0, 0, 0, (1), 0)) ∧
  (∀ f : mE → Prop, w_o (mft MX3_interlocked 31) f = f (.iadd, 32, 0, 0, 0, 0, 0)) ∧
  (∀ f : mE → Prop, w_o (mft MX3_interlocked 32) f = f (.iaload, 33, 0, 0, 0, 0, 0)) ∧
  (∀ f : mE → Prop, w_o (mft MX3_interlocked 33) f = f (.istore 6, 35, 6, 0, 0, 0, 0)) ∧
  (∀ f : mE → Prop, w_o (mft MX3_interlocked 35) f = f (.iload 4, 37, 4, 0, 0, 0, 0)) ∧
  (∀ f : mE → Prop, w_o (mft MX3_interlocked 37) f = f (.iload_n 2, 38, 2, 0, 0, 0, 0)) ∧
  (∀ f : mE → Prop, w_o (mft MX3_interlocked 38) f = f (.iconst 1, 39, 0, 0, 0, (1), 0)) ∧
  (∀ f : mE → Prop, w_o (mft MX3_interlocked 39) f = f (.iadd, 40, 0, 0, 0, 0, 0)) ∧
  (∀ f : mE → Prop, w_o (mft MX3_interlocked 40) f = f (.if_icmp .ge 15, 43, 55, 0, 0, 0, 0)) ∧
  (∀ f : mE → Prop, w_o (mft MX3_interlocked 43) f = f (.iload_n 2, 44, 2, 0, 0, 0, 0)) ∧
  (∀ f : mE → Prop, w_o (mft MX3_interlocked 44) f = f (.iconst 1, 45, 0, 0, 0, (1), 0)) ∧
  (∀ f : mE → Prop, w_o (mft MX3_interlocked 45) f = f (.iadd, 46, 0, 0, 0, 0, 0)) ∧
  (∀ f : mE → Prop, w_o (mft MX3_interlocked 46) f = f (.iload 5, 48, 5, 0, 0, 0, 0)) ∧
  (∀ f : mE → Prop, w_o (mft MX3_interlocked 48) f = f (.if_icmp .ge 7, 51, 55, 0, 0, 0, 0)) ∧
  (∀ f : mE → Prop, w_o (mft MX3_interlocked 51) f = f (.iconst 1, 52, 0, 0, 0, (1), 0)) ∧
  (∀ f : mE → Prop, w_o (mft MX3_interlocked 52) f = f (.goto 4, 55, 56, 0, 0, 0, 0)) ∧
  (∀ f : mE → Prop, w_o (mft MX3_interlocked 55) f = f (.iconst 0, 56, 0, 0, 0, (0), 0)) ∧
  (∀ f : mE → Prop, w_o (mft MX3_interlocked 56) f = f (.istore 7, 58, 7, 0, 0, 0, 0)) ∧
  (∀ f : mE → Prop, w_o (mft MX3_interlocked 58) f = f (.iload 4, 60, 4, 0, 0, 0, 0)) ∧
  (∀ f : mE → Prop, w_o (mft MX3_interlocked 60) f = f (.iload 6, 62, 6, 0, 0, 0, 0)) ∧
  (∀ f : mE → Prop, w_o (mft MX3_interlocked 62) f = f (.if_icmp .ge 14, 65, 76, 0, 0, 0, 0)) ∧
  (∀ f : mE → Prop, w_o (mft MX3_interlocked 65) f = f (.iload 6, 67, 6, 0, 0, 0, 0)) ∧
  (∀ f : mE → Prop, w_o (mft MX3_interlocked 67) f = f (.iload 5, 69, 5, 0, 0, 0, 0)) ∧
  (∀ f : mE → Prop, w_o (mft MX3_interlocked 69) f = f (.if_icmp .ge 7, 72, 76, 0, 0, 0, 0)) ∧
  (∀ f : mE → Prop, w_o (mft MX3_interlocked 72) f = f (.iconst 1, 73, 0, 0, 0, (1), 0)) ∧
  (∀ f : mE → Prop, w_o (mft MX3_interlocked 73) f = f (.goto 4, 76, 77, 0, 0, 0, 0)) ∧
  (∀ f : mE → Prop, w_o (mft MX3_interlocked 76) f = f (.iconst 0, 77, 0, 0, 0, (0), 0)) ∧
  (∀ f : mE → Prop, w_o (mft MX3_interlocked 77) f = f (.istore 8, 79, 8, 0, 0, 0, 0)) ∧
  (∀ f : mE → Prop, w_o (mft MX3_interlocked 79) f = f (.iload 7, 81, 7, 0, 0, 0, 0)) ∧
  (∀ f : mE → Prop, w_o (mft MX3_interlocked 81) f = f (.iload 8, 83, 8, 0, 0, 0, 0)) ∧
  (∀ f : mE → Prop, w_o (mft MX3_interlocked 83) f = f (.if_icmp .eq 7, 86, 90, 0, 0, 0, 0)) ∧
  (∀ f : mE → Prop, w_o (mft MX3_interlocked 86) f = f (.iconst 1, 87, 0, 0, 0, (1), 0)) ∧
  (∀ f : mE → Prop, w_o (mft MX3_interlocked 87) f = f (.goto 4, 90, 91, 0, 0, 0, 0)) ∧
  (∀ f : mE → Prop, w_o (mft MX3_interlocked 90) f = f (.iconst 0, 91, 0, 0, 0, (0), 0)) ∧
  (∀ f : mE → Prop, w_o (mft MX3_interlocked 91) f = f (.ireturn, 92, 0, 0, 1, 0, 0)) := ⟨fun _ => rfl, fun _ => rfl, fun _ => rfl, fun _ => rfl, fun _ => rfl, fun _ => rfl, fun _ => rfl, fun _ => rfl, fun _ => rfl, fun _ => rfl, fun _ => rfl, fun _ => rfl, fun _ => rfl, fun _ => rfl, fun _ => rfl, fun _ => rfl, fun _ => rfl, fun _ => rfl, fun _ => rfl, fun _ => rfl, fun _ => rfl, fun _ => rfl, fun _ => rfl, fun _ => rfl, fun _ => rfl, fun _ => rfl, fun _ => rfl, fun _ => rfl, fun _ => rfl, fun _ => rfl, fun _ => rfl, fun _ => rfl, fun _ => rfl, fun _ => rfl, fun _ => rfl, fun _ => rfl, fun _ => rfl, fun _ => rfl, fun _ => rfl, fun _ => rfl, fun _ => rfl, fun _ => rfl, fun _ => rfl, fun _ => rfl, fun _ => rfl, fun _ => rfl, fun _ => rfl, fun _ => rfl, fun _ => rfl, fun _ => rfl, fun _ => rfl, fun _ => rfl, fun _ => rfl, fun _ => rfl, fun _ => rfl⟩
set_option maxRecDepth 100000 in
theorem gd_X3_interlocked : mGood MX3_interlocked := ⟨by decide +kernel, by decide +kernel, by decide +kernel⟩
set_option maxRecDepth 100000 in
set_option maxHeartbeats 4000000 in
theorem ft_X4_init : (∀ f : mE → Prop, w_o (mft MX4_init 0) f = f (.aload_n 0, 1, 0, 0, 0, 0, 0)) ∧
  (∀ f : mE → Prop, w_o (mft MX4_init 1) f = f (.invokespecial 3, 4, 1001, 0, 0, 0, 0)) ∧
  (∀ f : mE → Prop, w_o (mft MX4_init 4) f = f (.aload_n 0, 5, 0, 0, 0, 0, 0)) ∧
  (∀ f : mE → Prop, w_o (mft MX4_init 5) f = f (.bipush 120, 7, 0, 0, 0, (120), 0)) ∧
  (∀ f : mE → Prop, w_o (mft MX4_init 7) f = f (.newarray .byte, 9, 0, 0, 0, 0, 0)) ∧
  (∀ f : mE → Prop, w_o (mft MX4_init 9) f = f (.putfield 9, 12, 4, 0, 2, 0, 0)) ∧
  (∀ f : mE → Prop, w_o (mft MX4_init 12) f = f (.aload_n 0, 13, 0, 0, 0, 0, 0)) ∧
  (∀ f : mE → Prop, w_o (mft MX4_init 13) f = f (.iconst 0, 14, 0, 0, 0, (0), 0)) ∧
  (∀ f : mE → Prop, w_o (mft MX4_init 14) f = f (.putfield 15, 17, 4, 1, 0, 0, 0)) ∧
  (∀ f : mE → Prop, w_o (mft MX4_init 17) f = f (.aload_n 0, 18, 0, 0, 0, 0, 0)) ∧
  (∀ f : mE → Prop, w_o (mft MX4_init 18) f = f (.iconst 0, 19, 0, 0, 0, (0), 0)) ∧
  (∀ f : mE → Prop, w_o (mft MX4_init 19) f = f (.putfield 19, 22, 4, 2, 0, 0, 0)) ∧
  (∀ f : mE → Prop, w_o (mft MX4_init 22) f = f (.aload_n 0, 23, 0, 0, 0, 0, 0)) ∧
  (∀ f : mE → Prop, w_o (mft MX4_init 23) f = f (.iconst 0, 24, 0, 0, 0, (0), 0)) ∧
  (∀ f : mE → Prop, w_o (mft MX4_init 24) f = f (.putfield 22, 27, 4, 3, 0, 0, 0)) ∧
  (∀ f : mE → Prop, w_o (mft MX4_init 27) f = f (.aload_n 0, 28, 0, 0, 0, 0, 0)) ∧
  (∀ f : mE → Prop, w_o (mft MX4_init 28) f = f (.iconst 0, 29, 0, 0, 0, (0), 0)) ∧
  (∀ f : mE → Prop, w_o (mft MX4_init 29) f = f (.putfield 25, 32, 4, 4, 0, 0, 0)) ∧
  (∀ f : mE → Prop, w_o (mft MX4_init 32) f = f (.aload_n 0, 33, 0, 0, 0, 0, 0)) ∧
  (∀ f : mE → Prop, w_o (mft MX4_init 33) f = f (.iconst 0, 34, 0, 0, 0, (0), 0)) ∧
  (∀ f : mE → Prop, w_o (mft MX4_init 34) f = f (.putfield 28, 37, 4, 5, 0, 0, 0)) ∧
  (∀ f : mE → Prop, w_o (mft MX4_init 37) f = f (.return_, 38, 0, 0, 0, 0, 0)) := ⟨fun _ => rfl, fun _ => rfl, fun _ => rfl, fun _ => rfl, fun _ => rfl, fun _ => rfl, fun _ => rfl, fun _ => rfl, fun _ => rfl, fun _ => rfl, fun _ => rfl, fun _ => rfl, fun _ => rfl, fun _ => rfl, fun _ => rfl, fun _ => rfl, fun _ => rfl, fun _ => rfl, fun _ => rfl, fun _ => rfl, fun _ => rfl, fun _ => rfl⟩
set_option maxRecDepth 100000 in
theorem gd_X4_init : mGood MX4_init := ⟨by decide +kernel, by decide +kernel, by decide +kernel⟩
set_option maxRecDepth 100000 in
set_option maxHeartbeats 4000000 in
theorem ft_X4_take : (∀ f : mE → Prop, w_o (mft MX4_take 0) f = f (.iconst 0, 1, 0, 0, 0, (0), 0)) ∧
  (∀ f : mE → Prop, w_o (mft MX4_take 1) f = f (.istore_n 3, 2, 3, 0, 0, 0, 0)) ∧
  (∀ f : mE → Prop, w_o (mft MX4_take 2) f = f (.iload_n 3, 3, 3, 0, 0, 0, 0)) ∧
  (∀ f : mE → Prop, w_o (mft MX4_take 3) f = f (.bipush 8, 5, 0, 0, 0, (8), 0)) ∧
  (∀ f : mE → Prop, w_o (mft MX4_take 5) f = f (.if_icmp .ge 48, 8, 53, 0, 0, 0, 0)) ∧
  (∀ f : mE → Prop, w_o (mft MX4_take 8) f = f (.aload_n 0, 9, 0, 0, 0, 0, 0)) ∧
  (∀ f : mE → Prop, w_o (mft MX4_take 9) f = f (.getfield 15, 12, 4, 1, 0, 0, 0)) ∧
  (∀ f : mE → Prop, w_o (mft MX4_take 12) f = f (.bipush 120, 14, 0, 0, 0, (120), 0)) ∧
  (∀ f : mE → Prop, w_o (mft MX4_take 14) f = f (.if_icmp .ge 39, 17, 53, 0, 0, 0, 0)) ∧
  (∀ f : mE → Prop, w_o (mft MX4_take 17) f = f (.aload_n 0, 18, 0, 0, 0, 0, 0)) ∧
  (∀ f : mE → Prop, w_o (mft MX4_take 18) f = f (.getfield 9, 21, 4, 0, 0, 0, 0)) ∧
  (∀ f : mE → Prop, w_o (mft MX4_take 21) f = f (.aload_n 0, 22, 0, 0, 0, 0, 0)) ∧
  (∀ f : mE → Prop, w_o (mft MX4_take 22) f = f (.getfield 15, 25, 4, 1, 0, 0, 0)) ∧
  (∀ f : mE → Prop, w_o (mft MX4_take 25) f = f (.lload_n 1, 26, 1, 0, 0, 0, 0)) ∧
  (∀ f : mE → Prop, w_o (mft MX4_take 26) f = f (.bipush 56, 28, 0, 0, 0, (56), 0)) ∧
  (∀ f : mE → Prop, w_o (mft MX4_take 28) f = f (.bipush 8, 30, 0, 0, 0, (8), 0)) ∧
  (∀ f : mE → Prop, w_o (mft MX4_take 30) f = f (.iload_n 3, 31, 3, 0, 0, 0, 0)) ∧
  (∀ f : mE → Prop, w_o (mft MX4_take 31) f = f (.imul, 32, 0, 0, 0, 0, 0)) ∧
  (∀ f : mE → Prop, w_o (mft MX4_take 32) f = f (.isub, 33, 0, 0, 0, 0, 0)) ∧
  (∀ f : mE → Prop, w_o (mft MX4_take 33) f = f (.lshr, 34, 0, 0, 0, 0, 0)) ∧
  (∀ f : mE → Prop, w_o (mft MX4_take 34) f = f (.l2i, 35, 0, 0, 0, 0, 0)) ∧
  (∀ f : mE → Prop, w_o (mft MX4_take 35) f = f (.i2b, 36, 0, 0, 0, 0, 0)) ∧
  (∀ f : mE → Prop, w_o (mft MX4_take 36) f = f (.bastore, 37, 1, 0, 0, 0, 0)) ∧
  (∀ f : mE → Prop, w_o (mft MX4_take 37) f = f (.aload_n 0, 38, 0, 0, 0, 0, 0)) ∧
  (∀ f : mE → Prop, w_o (mft MX4_take 38) f = f (.dup, 39, 0, 0, 0, 0, 0)) ∧
  (∀ f : mE → Prop, w_o (mft MX4_take 39) f = f (.getfield 15, 42, 4, 1, 0, 0, 0)) ∧
  (∀ f : mE → Prop, w_o (mft MX4_take 42) f = f (.iconst 1, 43, 0, 0, 0, (1), 0)) ∧
  (∀ f : mE → Prop, w_o (mft MX4_take 43) f = f (.iadd, 44, 0, 0, 0, 0, 0)) ∧
  (∀ f : mE → Prop, w_o (mft MX4_take 44) f = f (.putfield 15, 47, 4, 1, 0, 0, 0)) ∧
  (∀ f : mE → Prop, w_o (mft MX4_take 47) f = f (.iinc 3 1, 50, 3, 0, 0, (1), 0)) ∧
  (∀ f : mE → Prop, w_o (mft MX4_take 50) f = f (.goto (-48), 53, 2, 0, 0, 0, 0)) ∧
  (∀ f : mE → Prop, w_o (mft MX4_take 53) f = f (.return_, 54, 0, 0, 0, 0, 0)) := ⟨fun _ => rfl, fun _ => rfl, fun _ => rfl, fun _ => rfl, fun _ => rfl, fun _ => rfl, fun _ => rfl, fun _ => rfl, fun _ => rfl, fun _ => rfl, fun _ => rfl, fun _ => rfl, fun _ => rfl, fun _ => rfl, fun _ => rfl, fun _ => rfl, fun _ => rfl, fun _ => rfl, fun _ => rfl, fun _ => rfl, fun _ => rfl, fun _ => rfl, fun _ => rfl, fun _ => rfl, fun _ => rfl, fun _ => rfl, fun _ => rfl, fun _ => rfl, fun _ => rfl, fun _ => rfl, fun _ => rfl, fun _ => rfl⟩
set_option maxRecDepth 100000 in
theorem gd_X4_take : mGood MX4_take := ⟨by decide +kernel, by decide +kernel, by decide +kernel⟩
set_option maxRecDepth 100000 in
set_option maxHeartbeats 4000000 in
theorem ft_X4_tell : (∀ f : mE → Prop, w_o (mft MX4_tell 0) f = f (.aload_n 1, 1, 1, 0, 0, 0, 0)) ∧
  (∀ f : mE → Prop, w_o (mft MX4_tell 1) f = f (.invokevirtual 31, 4, 1, 0, 0, 0, 0)) ∧
  (∀ f : mE → Prop, w_o (mft MX4_tell 4) f = f (.aload_n 0, 5, 0, 0, 0, 0, 0)) ∧
  (∀ f : mE → Prop, w_o (mft MX4_tell 5) f = f (.iconst 0, 6, 0, 0, 0, (0), 0)) ∧
  (∀ f : mE → Prop, w_o (mft MX4_tell 6) f = f (.putfield 19, 9, 4, 2, 0, 0, 0)) ∧
  (∀ f : mE → Prop, w_o (mft MX4_tell 9) f = f (.iconst 0, 10, 0, 0, 0, (0), 0)) ∧
  (∀ f : mE → Prop, w_o (mft MX4_tell 10) f = f (.istore_n 2, 11, 2, 0, 0, 0, 0)) ∧
  (∀ f : mE → Prop, w_o (mft MX4_tell 11) f = f (.iload_n 2, 12, 2, 0, 0, 0, 0)) ∧
  (∀ f : mE → Prop, w_o (mft MX4_tell 12) f = f (.bipush 30, 14, 0, 0, 0, (30), 0)) ∧
  (∀ f : mE → Prop, w_o (mft MX4_tell 14) f = f (.if_icmp .gt 46, 17, 60, 0, 0, 0, 0)) ∧
  (∀ f : mE → Prop, w_o (mft MX4_tell 17) f = f (.aload_n 0, 18, 0, 0, 0, 0, 0)) ∧
  (∀ f : mE → Prop, w_o (mft MX4_tell 18) f = f (.invokevirtual 36, 21, 52, 0, 4, 0, 0)) ∧
  (∀ f : mE → Prop, w_o (mft MX4_tell 21) f = f (.aload_n 0, 22, 0, 0, 0, 0, 0)) ∧
  (∀ f : mE → Prop, w_o (mft MX4_tell 22) f = f (.getfield 22, 25, 4, 3, 0, 0, 0)) ∧
  (∀ f : mE → Prop, w_o (mft MX4_tell 25) f = f (.iconst 3, 26, 0, 0, 0, (3), 0)) ∧
  (∀ f : mE → Prop, w_o (mft MX4_tell 26) f = f (.if_icmp .ne 16, 29, 42, 0, 0, 0, 0)) ∧
  (∀ f : mE → Prop, w_o (mft MX4_tell 29) f = f (.aload_n 1, 30, 1, 0, 0, 0, 0)) ∧
  (∀ f : mE → Prop, w_o (mft MX4_tell 30) f = f (.invokevirtual 39, 33, 3, 0, 0, 0, 0)) ∧
  (∀ f : mE → Prop, w_o (mft MX4_tell 33) f = f (.ifCond .eq 7, 36, 40, 0, 0, 0, 0)) ∧
  (∀ f : mE → Prop, w_o (mft MX4_tell 36) f = f (.iconst 0, 37, 0, 0, 0, (0), 0)) ∧
  (∀ f : mE → Prop, w_o (mft MX4_tell 37) f = f (.goto 4, 40, 41, 0, 0, 0, 0)) ∧
  (∀ f : mE → Prop, w_o (mft MX4_tell 40) f = f (.iconst 2, 41, 0, 0, 0, (2), 0)) ∧
  (∀ f : mE → Prop, w_o (mft MX4_tell 41) f = f (.ireturn, 42, 0, 0, 0, 0, 0)) ∧
  (∀ f : mE → Prop, w_o (mft MX4_tell 42) f = f (.aload_n 0, 43, 0, 0, 0, 0, 0)) ∧
  (∀ f : mE → Prop, w_o (mft MX4_tell 43) f = f (.aload_n 1, 44, 1, 0, 0, 0, 0)) ∧
  (∀ f : mE → Prop, w_o (mft MX4_tell 44) f = f (.invokevirtual 43, 47, 50, 1, 4, 0, 0)) ∧
  (∀ f : mE → Prop, w_o (mft MX4_tell 47) f = f (.istore_n 3, 48, 3, 0, 0, 0, 0)) ∧
  (∀ f : mE → Prop, w_o (mft MX4_tell 48) f = f (.iload_n 3, 49, 3, 0, 0, 0, 0)) ∧
  (∀ f : mE → Prop, w_o (mft MX4_tell 49) f = f (.ifCond .eq 5, 52, 54, 0, 0, 0, 0)) ∧
  (∀ f : mE → Prop, w_o (mft MX4_tell 52) f = f (.iload_n 3, 53, 3, 0, 0, 0, 0)) ∧
  (∀ f : mE → Prop, w_o (mft MX4_tell 53) f = f (.ireturn, 54, 0, 0, 0, 0, 0)) ∧
  (∀ f : mE → Prop, w_o (mft MX4_tell 54) f = f (.iinc 2 1, 57, 2, 0, 0, (1), 0)) ∧
  (∀ f : mE → Prop, w_o (mft MX4_tell 57) f = f (.goto (-46), 60, 11, 0, 0, 0, 0)) ∧
  (∀ f : mE → Prop, w_o (mft MX4_tell 60) f = f (.iconst 4, 61, 0, 0, 0, (4), 0)) ∧
  (∀ f : mE → Prop, w_o (mft MX4_tell 61) f = f (.ireturn, 62, 0, 0, 0, 0, 0)) := ⟨fun _ => rfl, fun _ => rfl, fun _ => rfl, fun _ => rfl, fun _ => rfl, fun _ => rfl, fun _ => rfl, fun _ => rfl, fun _ => rfl, fun _ => rfl, fun _ => rfl, fun _ => rfl, fun _ => rfl, fun _ => rfl, fun _ => rfl, fun _ => rfl, fun _ => rfl, fun _ => rfl, fun _ => rfl, fun _ => rfl, fun _ => rfl, fun _ => rfl, fun _ => rfl, fun _ => rfl, fun _ => rfl, fun _ => rfl, fun _ => rfl, fun _ => rfl, fun _ => rfl, fun _ => rfl, fun _ => rfl, fun _ => rfl, fun _ => rfl, fun _ => rfl, fun _ => rfl⟩
set_option maxRecDepth 100000 in
theorem gd_X4_tell : mGood MX4_tell := ⟨by decide +kernel, by decide +kernel, by decide +kernel⟩
set_option maxRecDepth 100000 in
set_option maxHeartbeats 4000000 in
theorem ft_X4_tellEvent : (∀ f : mE → Prop, w_o (mft MX4_tellEvent 0) f = f (.aload_n 0, 1, 0, 0, 0, 0, 0)) ∧
  (∀ f : mE → Prop, w_o (mft MX4_tellEvent 1) f = f (.getfield 22, 4, 4, 3, 0, 0, 0)) ∧
  (∀ f : mE → Prop, w_o (mft MX4_tellEvent 4) f = f (.iconst 1, 5, 0, 0, 0, (1), 0)) ∧
  (∀ f : mE → Prop, w_o (mft MX4_tellEvent 5) f = f (.if_icmp .eq 8, 8, 13, 0, 0, 0, 0)) ∧
  (∀ f : mE → Prop, w_o (mft MX4_tellEvent 8) f = f (.aload_n 0, 9, 0, 0, 0, 0, 0)) ∧
  (∀ f : mE → Prop, w_o (mft MX4_tellEvent 9) f = f (.invokevirtual 47, 12, 51, 0, 4, 0, 0)) ∧
  (∀ f : mE → Prop, w_o (mft MX4_tellEvent 12) f = f (.ireturn, 13, 0, 0, 0, 0, 0)) ∧
  (∀ f : mE → Prop, w_o (mft MX4_tellEvent 13) f = f (.aload_n 0, 14, 0, 0, 0, 0, 0)) ∧
  (∀ f : mE → Prop, w_o (mft MX4_tellEvent 14) f = f (.getfield 28, 17, 4, 5, 0, 0, 0)) ∧
  (∀ f : mE → Prop, w_o (mft MX4_tellEvent 17) f = f (.istore_n 2, 18, 2, 0, 0, 0, 0)) ∧
  (∀ f : mE → Prop, w_o (mft MX4_tellEvent 18) f = f (.aload_n 1, 19, 1, 0, 0, 0, 0)) ∧
  (∀ f : mE → Prop, w_o (mft MX4_tellEvent 19) f = f (.iload_n 2, 20, 2, 0, 0, 0, 0)) ∧
  (∀ f : mE → Prop, w_o (mft MX4_tellEvent 20) f = f (.invokevirtual 51, 23, 4, 1, 0, 0, 0)) ∧
  (∀ f : mE → Prop, w_o (mft MX4_tellEvent 23) f = f (.ifCond .ne 5, 26, 28, 0, 0, 0, 0)) ∧
  (∀ f : mE → Prop, w_o (mft MX4_tellEvent 26) f = f (.iconst 4, 27, 0, 0, 0, (4), 0)) ∧
  (∀ f : mE → Prop, w_o (mft MX4_tellEvent 27) f = f (.ireturn, 28, 0, 0, 0, 0, 0)) ∧
  (∀ f : mE → Prop, w_o (mft MX4_tellEvent 28) f = f (.aload_n 0, 29, 0, 0, 0, 0, 0)) ∧
  (∀ f : mE → Prop, w_o (mft MX4_tellEvent 29) f = f (.invokevirtual 36, 32, 52, 0, 4, 0, 0)) ∧
  (∀ f : mE → Prop, w_o (mft MX4_tellEvent 32) f = f (.aload_n 0, 33, 0, 0, 0, 0, 0)) ∧
  (∀ f : mE → Prop, w_o (mft MX4_tellEvent 33) f = f (.getfield 22, 36, 4, 3, 0, 0, 0)) ∧
  (∀ f : mE → Prop, w_o (mft MX4_tellEvent 36) f = f (.iconst 2, 37, 0, 0, 0, (2), 0)) ∧
  (∀ f : mE → Prop, w_o (mft MX4_tellEvent 37) f = f (.if_icmp .eq 8, 40, 45, 0, 0, 0, 0)) ∧
  (∀ f : mE → Prop, w_o (mft MX4_tellEvent 40) f = f (.aload_n 0, 41, 0, 0, 0, 0, 0)) ∧
  (∀ f : mE → Prop, w_o (mft MX4_tellEvent 41) f = f (.invokevirtual 47, 44, 51, 0, 4, 0, 0)) ∧
  (∀ f : mE → Prop, w_o (mft MX4_tellEvent 44) f = f (.ireturn, 45, 0, 0, 0, 0, 0)) ∧
  (∀ f : mE → Prop, w_o (mft MX4_tellEvent 45) f = f (.aload_n 1, 46, 1, 0, 0, 0, 0)) ∧
  (∀ f : mE → Prop, w_o (mft MX4_tellEvent 46) f = f (.iload_n 2, 47, 2, 0, 0, 0, 0)) ∧
  (∀ f : mE → Prop, w_o (mft MX4_tellEvent 47) f = f (.aload_n 0, 48, 0, 0, 0, 0, 0)) ∧
  (∀ f : mE → Prop, w_o (mft MX4_tellEvent 48) f = f (.getfield 28, 51, 4, 5, 0, 0, 0)) ∧
  (∀ f : mE → Prop, w_o (mft MX4_tellEvent 51) f = f (.invokevirtual 55, 54, 6, 2, 0, 0, 0)) ∧
  (∀ f : mE → Prop, w_o (mft MX4_tellEvent 54) f = f (.ifCond .eq 7, 57, 61, 0, 0, 0, 0)) ∧
  (∀ f : mE → Prop, w_o (mft MX4_tellEvent 57) f = f (.iconst 0, 58, 0, 0, 0, (0), 0)) ∧
  (∀ f : mE → Prop, w_o (mft MX4_tellEvent 58) f = f (.goto 4, 61, 62, 0, 0, 0, 0)) ∧
  (∀ f : mE → Prop, w_o (mft MX4_tellEvent 61) f = f (.iconst 3, 62, 0, 0, 0, (3), 0)) ∧
  (∀ f : mE → Prop, w_o (mft MX4_tellEvent 62) f = f (.ireturn, 63, 0, 0, 0, 0, 0)) := ⟨fun _ => rfl, fun _ => rfl, fun _ => rfl, fun _ => rfl, fun _ => rfl, fun _ => rfl, fun _ => rfl, fun _ => rfl, fun _ => rfl, fun _ => rfl, fun _ => rfl, fun _ => rfl, fun _ => rfl, fun _ => rfl, fun _ => rfl, fun _ => rfl, fun _ => rfl, fun _ => rfl, fun _ => rfl, fun _ => rfl, fun _ => rfl, fun _ => rfl, fun _ => rfl, fun _ => rfl, fun _ => rfl, fun _ => rfl, fun _ => rfl, fun _ => rfl, fun _ => rfl, fun _ => rfl, fun _ => rfl, fun _ => rfl, fun _ => rfl, fun _ => rfl, fun _ => rfl⟩
set_option maxRecDepth 100000 in
theorem gd_X4_tellEvent : mGood MX4_tellEvent := ⟨by decide +kernel, by decide +kernel, by decide +kernel⟩
set_option maxRecDepth 100000 in
set_option maxHeartbeats 4000000 in
theorem ft_X4_misplaced : (∀ f : mE → Prop, w_o (mft MX4_misplaced 0) f = f (.aload_n 0, 1, 0, 0, 0, 0, 0)) ∧
  (∀ f : mE → Prop, w_o (mft MX4_misplaced 1) f = f (.getfield 22, 4, 4, 3, 0, 0, 0)) ∧
  (∀ f : mE → Prop, w_o (mft MX4_misplaced 4) f = f (.ifCond .ne 7, 7, 11, 0, 0, 0, 0)) ∧
  (∀ f : mE → Prop, w_o (mft MX4_misplaced 7) f = f (.iconst 1, 8, 0, 0, 0, (1), 0)) ∧
  (∀ f : mE → Prop, w_o (mft MX4_misplaced 8) f = f (.goto 4, 11, 12, 0, 0, 0, 0)) ∧
  (∀ f : mE → Prop, w_o (mft MX4_misplaced 11) f = f (.iconst 2, 12, 0, 0, 0, (2), 0)) ∧
  (∀ f : mE → Prop, w_o (mft MX4_misplaced 12) f = f (.ireturn, 13, 0, 0, 0, 0, 0)) := ⟨fun _ => rfl, fun _ => rfl, fun _ => rfl, fun _ => rfl, fun _ => rfl, fun _ => rfl, fun _ => rfl⟩
set_option maxRecDepth 100000 in
theorem gd_X4_misplaced : mGood MX4_misplaced := ⟨by decide +kernel, by decide +kernel, by decide +kernel⟩
set_option maxRecDepth 100000 in
set_option maxHeartbeats 4000000 in
theorem ft_X4_readToken : (∀ f : mE → Prop, w_o (mft MX4_readToken 0) f = f (.aload_n 0, 1, 0, 0, 0, 0, 0)) ∧
  (∀ f : mE → Prop, w_o (mft MX4_readToken 1) f = f (.getfield 19, 4, 4, 2, 0, 0, 0)) ∧
  (∀ f : mE → Prop, w_o (mft MX4_readToken 4) f = f (.aload_n 0, 5, 0, 0, 0, 0, 0)) ∧
  (∀ f : mE → Prop, w_o (mft MX4_readToken 5) f = f (.getfield 15, 8, 4, 1, 0, 0, 0)) ∧
  (∀ f : mE → Prop, w_o (mft MX4_readToken 8) f = f (.if_icmp .ge 30, 11, 38, 0, 0, 0, 0)) ∧
  (∀ f : mE → Prop, w_o (mft MX4_readToken 11) f = f (.aload_n 0, 12, 0, 0, 0, 0, 0)) ∧
  (∀ f : mE → Prop, w_o (mft MX4_readToken 12) f = f (.getfield 9, 15, 4, 0, 0, 0, 0)) ∧
  (∀ f : mE → Prop, w_o (mft MX4_readToken 15) f = f (.aload_n 0, 16, 0, 0, 0, 0, 0)) ∧
  (∀ f : mE → Prop, w_o (mft MX4_readToken 16) f = f (.getfield 19, 19, 4, 2, 0, 0, 0)) ∧
  (∀ f : mE → Prop, w_o (mft MX4_readToken 19) f = f (.baload, 20, 1, 0, 0, 0, 0)) ∧
  (∀ f : mE → Prop, w_o (mft MX4_readToken 20) f = f (.bipush 32, 22, 0, 0, 0, (32), 0)) ∧
  (∀ f : mE → Prop, w_o (mft MX4_readToken 22) f = f (.if_icmp .ne 16, 25, 38, 0, 0, 0, 0)) ∧
  (∀ f : mE → Prop, w_o (mft MX4_readToken 25) f = f (.aload_n 0, 26, 0, 0, 0, 0, 0)) ∧
  (∀ f : mE → Prop, w_o (mft MX4_readToken 26) f = f (.dup, 27, 0, 0, 0, 0, 0)) ∧
  (∀ f : mE → Prop, w_o (mft MX4_readToken 27) f = f (.getfield 19, 30, 4, 2, 0, 0, 0)) ∧
  (∀ f : mE → Prop, w_o (mft MX4_readToken 30) f = f (.iconst 1, 31, 0, 0, 0, (1), 0)) ∧
  (∀ f : mE → Prop, w_o (mft MX4_readToken 31) f = f (.iadd, 32, 0, 0, 0, 0, 0)) ∧
  (∀ f : mE → Prop, w_o (mft MX4_readToken 32) f = f (.putfield 19, 35, 4, 2, 0, 0, 0)) ∧
  (∀ f : mE → Prop, w_o (mft MX4_readToken 35) f = f (.goto (-35), 38, 0, 0, 0, 0, 0)) ∧
  (∀ f : mE → Prop, w_o (mft MX4_readToken 38) f = f (.aload_n 0, 39, 0, 0, 0, 0, 0)) ∧
  (∀ f : mE → Prop, w_o (mft MX4_readToken 39) f = f (.aload_n 0, 40, 0, 0, 0, 0, 0)) ∧
  (∀ f : mE → Prop, w_o (mft MX4_readToken 40) f = f (.getfield 19, 43, 4, 2, 0, 0, 0)) ∧
  (∀ f : mE → Prop, w_o (mft MX4_readToken 43) f = f (.putfield 25, 46, 4, 4, 0, 0, 0)) ∧
  (∀ f : mE → Prop, w_o (mft MX4_readToken 46) f = f (.aload_n 0, 47, 0, 0, 0, 0, 0)) ∧
  (∀ f : mE → Prop, w_o (mft MX4_readToken 47) f = f (.getfield 19, 50, 4, 2, 0, 0, 0)) ∧
  (∀ f : mE → Prop, w_o (mft MX4_readToken 50) f = f (.aload_n 0, 51, 0, 0, 0, 0, 0)) ∧
  (∀ f : mE → Prop, w_o (mft MX4_readToken 51) f = f (.getfield 15, 54, 4, 1, 0, 0, 0)) ∧
  (∀ f : mE → Prop, w_o (mft MX4_readToken 54) f = f (.if_icmp .lt 11, 57, 65, 0, 0, 0, 0)) ∧
  (∀ f : mE → Prop, w_o (mft MX4_readToken 57) f = f (.aload_n 0, 58, 0, 0, 0, 0, 0)) ∧
  (∀ f : mE → Prop, w_o (mft MX4_readToken 58) f = f (.iconst 3, 59, 0, 0, 0, (3), 0)) ∧
  (∀ f : mE → Prop, w_o (mft MX4_readToken 59) f = f (.putfield 22, 62, 4, 3, 0, 0, 0)) ∧
  (∀ f : mE → Prop, w_o (mft MX4_readToken 62) f = f (.goto 25, 65, 87, 0, 0, 0, 0)) ∧
  (∀ f : mE → Prop, w_o (mft MX4_readToken 65) f = f (.aload_n 0, 66, 0, 0, 0, 0, 0)) ∧
  (∀ f : mE → Prop, w_o (mft MX4_readToken 66) f = f (.aload_n 0, 67, 0, 0, 0, 0, 0)) ∧
  (∀ f : mE → Prop, w_o (mft MX4_readToken 67) f = f (.getfield 19, 70, 4, 2, 0, 0, 0)) ∧
  (∀ f : mE → Prop, w_o (mft MX4_readToken 70) f = f (.invokevirtual 59, 73, 55, 1, 4, 0, 0)) ∧
  (∀ f : mE → Prop, w_o (mft MX4_readToken 73) f = f (.ifCond .eq 10, 76, 83, 0, 0, 0, 0)) ∧
  (∀ f : mE → Prop, w_o (mft MX4_readToken 76) f = f (.aload_n 0, 77, 0, 0, 0, 0, 0)) ∧
  (∀ f : mE → Prop, w_o (mft MX4_readToken 77) f = f (.invokevirtual 62, 80, 54, 0, 4, 0, 0)) ∧
  (∀ f : mE → Prop, w_o (mft MX4_readToken 80) f = f (.goto 7, 83, 87, 0, 0, 0, 0)) ∧
  (∀ f : mE → Prop, w_o (mft MX4_readToken 83) f = f (.aload_n 0, 84, 0, 0, 0, 0, 0)) ∧
  (∀ f : mE → Prop, w_o (mft MX4_readToken 84) f = f (.invokevirtual 65, 87, 53, 0, 4, 0, 0)) ∧
  (∀ f : mE → Prop, w_o (mft MX4_readToken 87) f = f (.return_, 88, 0, 0, 0, 0, 0)) := ⟨fun _ => rfl, fun _ => rfl, fun _ => rfl, fun _ => rfl, fun _ => rfl, fun _ => rfl, fun _ => rfl, fun _ => rfl, fun _ => rfl, fun _ => rfl, fun _ => rfl, fun _ => rfl, fun _ => rfl, fun _ => rfl, fun _ => rfl, fun _ => rfl, fun _ => rfl, fun _ => rfl, fun _ => rfl, fun _ => rfl, fun _ => rfl, fun _ => rfl, fun _ => rfl, fun _ => rfl, fun _ => rfl, fun _ => rfl, fun _ => rfl, fun _ => rfl, fun _ => rfl, fun _ => rfl, fun _ => rfl, fun _ => rfl, fun _ => rfl, fun _ => rfl, fun _ => rfl, fun _ => rfl, fun _ => rfl, fun _ => rfl, fun _ => rfl, fun _ => rfl, fun _ => rfl, fun _ => rfl, fun _ => rfl⟩
set_option maxRecDepth 100000 in
theorem gd_X4_readToken : mGood MX4_readToken := ⟨by decide +kernel, by decide +kernel, by decide +kernel⟩
set_option maxRecDepth 100000 in
set_option maxHeartbeats 4000000 in
theorem ft_X4_readLetter : (∀ f : mE → Prop, w_o (mft MX4_readLetter 0) f = f (.aload_n 0, 1, 0, 0, 0, 0, 0)) ∧
  (∀ f : mE → Prop, w_o (mft MX4_readLetter 1) f = f (.ldc 68, 3, 0, 0, 0, 0, 0)) ∧
  (∀ f : mE → Prop, w_o (mft MX4_readLetter 3) f = f (.aload_n 0, 4, 0, 0, 0, 0, 0)) ∧
  (∀ f : mE → Prop, w_o (mft MX4_readLetter 4) f = f (.getfield 9, 7, 4, 0, 0, 0, 0)) ∧
  (∀ f : mE → Prop, w_o (mft MX4_readLetter 7) f = f (.aload_n 0, 8, 0, 0, 0, 0, 0)) ∧
  (∀ f : mE → Prop, w_o (mft MX4_readLetter 8) f = f (.getfield 19, 11, 4, 2, 0, 0, 0)) ∧
  (∀ f : mE → Prop, w_o (mft MX4_readLetter 11) f = f (.baload, 12, 1, 0, 0, 0, 0)) ∧
  (∀ f : mE → Prop, w_o (mft MX4_readLetter 12) f = f (.sipush 255, 15, 0, 0, 0, (255), 0)) ∧
  (∀ f : mE → Prop, w_o (mft MX4_readLetter 15) f = f (.iand, 16, 0, 0, 0, 0, 0)) ∧
  (∀ f : mE → Prop, w_o (mft MX4_readLetter 16) f = f (.i2c, 17, 0, 0, 0, 0, 0)) ∧
  (∀ f : mE → Prop, w_o (mft MX4_readLetter 17) f = f (.invokevirtual 70, 20, 999, 0, 0, 0, 0)) ∧
  (∀ f : mE → Prop, w_o (mft MX4_readLetter 20) f = f (.putfield 28, 23, 4, 5, 0, 0, 0)) ∧
  (∀ f : mE → Prop, w_o (mft MX4_readLetter 23) f = f (.aload_n 0, 24, 0, 0, 0, 0, 0)) ∧
  (∀ f : mE → Prop, w_o (mft MX4_readLetter 24) f = f (.aload_n 0, 25, 0, 0, 0, 0, 0)) ∧
  (∀ f : mE → Prop, w_o (mft MX4_readLetter 25) f = f (.getfield 28, 28, 4, 5, 0, 0, 0)) ∧
  (∀ f : mE → Prop, w_o (mft MX4_readLetter 28) f = f (.ifCond .ge 7, 31, 35, 0, 0, 0, 0)) ∧
  (∀ f : mE → Prop, w_o (mft MX4_readLetter 31) f = f (.iconst 0, 32, 0, 0, 0, (0), 0)) ∧
  (∀ f : mE → Prop, w_o (mft MX4_readLetter 32) f = f (.goto 4, 35, 36, 0, 0, 0, 0)) ∧
  (∀ f : mE → Prop, w_o (mft MX4_readLetter 35) f = f (.iconst 1, 36, 0, 0, 0, (1), 0)) ∧
  (∀ f : mE → Prop, w_o (mft MX4_readLetter 36) f = f (.putfield 22, 39, 4, 3, 0, 0, 0)) ∧
  (∀ f : mE → Prop, w_o (mft MX4_readLetter 39) f = f (.aload_n 0, 40, 0, 0, 0, 0, 0)) ∧
  (∀ f : mE → Prop, w_o (mft MX4_readLetter 40) f = f (.dup, 41, 0, 0, 0, 0, 0)) ∧
  (∀ f : mE → Prop, w_o (mft MX4_readLetter 41) f = f (.getfield 19, 44, 4, 2, 0, 0, 0)) ∧
  (∀ f : mE → Prop, w_o (mft MX4_readLetter 44) f = f (.iconst 1, 45, 0, 0, 0, (1), 0)) ∧
  (∀ f : mE → Prop, w_o (mft MX4_readLetter 45) f = f (.iadd, 46, 0, 0, 0, 0, 0)) ∧
  (∀ f : mE → Prop, w_o (mft MX4_readLetter 46) f = f (.putfield 19, 49, 4, 2, 0, 0, 0)) ∧
  (∀ f : mE → Prop, w_o (mft MX4_readLetter 49) f = f (.return_, 50, 0, 0, 0, 0, 0)) := ⟨fun _ => rfl, fun _ => rfl, fun _ => rfl, fun _ => rfl, fun _ => rfl, fun _ => rfl, fun _ => rfl, fun _ => rfl, fun _ => rfl, fun _ => rfl, fun _ => rfl, fun _ => rfl, fun _ => rfl, fun _ => rfl, fun _ => rfl, fun _ => rfl, fun _ => rfl, fun _ => rfl, fun _ => rfl, fun _ => rfl, fun _ => rfl, fun _ => rfl, fun _ => rfl, fun _ => rfl, fun _ => rfl, fun _ => rfl, fun _ => rfl⟩
set_option maxRecDepth 100000 in
theorem gd_X4_readLetter : mGood MX4_readLetter := ⟨by decide +kernel, by decide +kernel, by decide +kernel⟩
set_option maxRecDepth 100000 in
set_option maxHeartbeats 4000000 in
theorem ft_X4_readNumber : (∀ f : mE → Prop, w_o (mft MX4_readNumber 0) f = f (.aload_n 0, 1, 0, 0, 0, 0, 0)) ∧
  (∀ f : mE → Prop, w_o (mft MX4_readNumber 1) f = f (.iconst 0, 2, 0, 0, 0, (0), 0)) ∧
  (∀ f : mE → Prop, w_o (mft MX4_readNumber 2) f = f (.putfield 28, 5, 4, 5, 0, 0, 0)) ∧
  (∀ f : mE → Prop, w_o (mft MX4_readNumber 5) f = f (.iconst 0, 6, 0, 0, 0, (0), 0)) ∧
  (∀ f : mE → Prop, w_o (mft MX4_readNumber 6) f = f (.istore_n 1, 7, 1, 0, 0, 0, 0)) ∧
  (∀ f : mE → Prop, w_o (mft MX4_readNumber 7) f = f (.aload_n 0, 8, 0, 0, 0, 0, 0)) ∧
  (∀ f : mE → Prop, w_o (mft MX4_readNumber 8) f = f (.getfield 19, 11, 4, 2, 0, 0, 0)) ∧
  (∀ f : mE → Prop, w_o (mft MX4_readNumber 11) f = f (.aload_n 0, 12, 0, 0, 0, 0, 0)) ∧
  (∀ f : mE → Prop, w_o (mft MX4_readNumber 12) f = f (.getfield 15, 15, 4, 1, 0, 0, 0)) ∧
  (∀ f : mE → Prop, w_o (mft MX4_readNumber 15) f = f (.if_icmp .ge 59, 18, 74, 0, 0, 0, 0)) ∧
  (∀ f : mE → Prop, w_o (mft MX4_readNumber 18) f = f (.aload_n 0, 19, 0, 0, 0, 0, 0)) ∧
  (∀ f : mE → Prop, w_o (mft MX4_readNumber 19) f = f (.aload_n 0, 20, 0, 0, 0, 0, 0)) ∧
  (∀ f : mE → Prop, w_o (mft MX4_readNumber 20) f = f (.getfield 19, 23, 4, 2, 0, 0, 0)) ∧
  (∀ f : mE → Prop, w_o (mft MX4_readNumber 23) f = f (.invokevirtual 59, 26, 55, 1, 4, 0, 0)) ∧
  (∀ f : mE → Prop, w_o (mft MX4_readNumber 26) f = f (.ifCond .eq 48, 29, 74, 0, 0, 0, 0)) ∧
  (∀ f : mE → Prop, w_o (mft MX4_readNumber 29) f = f (.iload_n 1, 30, 1, 0, 0, 0, 0)) ∧
  (∀ f : mE → Prop, w_o (mft MX4_readNumber 30) f = f (.iconst 2, 31, 0, 0, 0, (2), 0)) ∧
  (∀ f : mE → Prop, w_o (mft MX4_readNumber 31) f = f (.if_icmp .gt 43, 34, 74, 0, 0, 0, 0)) ∧
  (∀ f : mE → Prop, w_o (mft MX4_readNumber 34) f = f (.aload_n 0, 35, 0, 0, 0, 0, 0)) ∧
  (∀ f : mE → Prop, w_o (mft MX4_readNumber 35) f = f (.bipush 10, 37, 0, 0, 0, (10), 0)) ∧
  (∀ f : mE → Prop, w_o (mft MX4_readNumber 37) f = f (.aload_n 0, 38, 0, 0, 0, 0, 0)) ∧
  (∀ f : mE → Prop, w_o (mft MX4_readNumber 38) f = f (.getfield 28, 41, 4, 5, 0, 0, 0)) ∧
  (∀ f : mE → Prop, w_o (mft MX4_readNumber 41) f = f (.imul, 42, 0, 0, 0, 0, 0)) ∧
  (∀ f : mE → Prop, w_o (mft MX4_readNumber 42) f = f (.aload_n 0, 43, 0, 0, 0, 0, 0)) ∧
  (∀ f : mE → Prop, w_o (mft MX4_readNumber 43) f = f (.getfield 9, 46, 4, 0, 0, 0, 0)) ∧
  (∀ f : mE → Prop, w_o (mft MX4_readNumber 46) f = f (.aload_n 0, 47, 0, 0, 0, 0, 0)) ∧
  (∀ f : mE → Prop, w_o (mft MX4_readNumber 47) f = f (.getfield 19, 50, 4, 2, 0, 0, 0)) ∧
  (∀ f : mE → Prop, w_o (mft MX4_readNumber 50) f = f (.baload, 51, 1, 0, 0, 0, 0)) ∧
  (∀ f : mE → Prop, w_o (mft MX4_readNumber 51) f = f (.iadd, 52, 0, 0, 0, 0, 0)) ∧
  (∀ f : mE → Prop, w_o (mft MX4_readNumber 52) f = f (.bipush 48, 54, 0, 0, 0, (48), 0)) ∧
  (∀ f : mE → Prop, w_o (mft MX4_readNumber 54) f = f (.isub, 55, 0, 0, 0, 0, 0)) ∧
  (∀ f : mE → Prop, w_o (mft MX4_readNumber 55) f = f (.putfield 28, 58, 4, 5, 0, 0, 0)) ∧
  (∀ f : mE → Prop, w_o (mft MX4_readNumber 58) f = f (.aload_n 0, 59, 0, 0, 0, 0, 0)) ∧
  (∀ f : mE → Prop, w_o (mft MX4_readNumber 59) f = f (.dup, 60, 0, 0, 0, 0, 0)) ∧
  (∀ f : mE → Prop, w_o (mft MX4_readNumber 60) f = f (.getfield 19, 63, 4, 2, 0, 0, 0)) ∧
  (∀ f : mE → Prop, w_o (mft MX4_readNumber 63) f = f (.iconst 1, 64, 0, 0, 0, (1), 0)) ∧
  (∀ f : mE → Prop, w_o (mft MX4_readNumber 64) f = f (.iadd, 65, 0, 0, 0, 0, 0)) ∧
  (∀ f : mE → Prop, w_o (mft MX4_readNumber 65) f = f (.putfield 19, 68, 4, 2, 0, 0, 0)) ∧
  (∀ f : mE → Prop, w_o (mft MX4_readNumber 68) f = f (.iinc 1 1, 71, 1, 0, 0, (1), 0)) ∧
  (∀ f : mE → Prop, w_o (mft MX4_readNumber 71) f = f (.goto (-64), 74, 7, 0, 0, 0, 0)) ∧
  (∀ f : mE → Prop, w_o (mft MX4_readNumber 74) f = f (.aload_n 0, 75, 0, 0, 0, 0, 0)) ∧
  (∀ f : mE → Prop, w_o (mft MX4_readNumber 75) f = f (.iload_n 1, 76, 1, 0, 0, 0, 0)) ∧
  (∀ f : mE → Prop, w_o (mft MX4_readNumber 76) f = f (.iconst 2, 77, 0, 0, 0, (2), 0)) ∧
  (∀ f : mE → Prop, w_o (mft MX4_readNumber 77) f = f (.if_icmp .le 7, 80, 84, 0, 0, 0, 0)) ∧
  (∀ f : mE → Prop, w_o (mft MX4_readNumber 80) f = f (.iconst 0, 81, 0, 0, 0, (0), 0)) ∧
  (∀ f : mE → Prop, w_o (mft MX4_readNumber 81) f = f (.goto 4, 84, 85, 0, 0, 0, 0)) ∧
  (∀ f : mE → Prop, w_o (mft MX4_readNumber 84) f = f (.iconst 2, 85, 0, 0, 0, (2), 0)) ∧
  (∀ f : mE → Prop, w_o (mft MX4_readNumber 85) f = f (.putfield 22, 88, 4, 3, 0, 0, 0)) ∧
  (∀ f : mE → Prop, w_o (mft MX4_readNumber 88) f = f (.return_, 89, 0, 0, 0, 0, 0)) := ⟨fun _ => rfl, fun _ => rfl, fun _ => rfl, fun _ => rfl, fun _ => rfl, fun _ => rfl, fun _ => rfl, fun _ => rfl, fun _ => rfl, fun _ => rfl, fun _ => rfl, fun _ => rfl, fun _ => rfl, fun _ => rfl, fun _ => rfl, fun _ => rfl, fun _ => rfl, fun _ => rfl, fun _ => rfl, fun _ => rfl, fun _ => rfl, fun _ => rfl, fun _ => rfl, fun _ => rfl, fun _ => rfl, fun _ => rfl, fun _ => rfl, fun _ => rfl, fun _ => rfl, fun _ => rfl, fun _ => rfl, fun _ => rfl, fun _ => rfl, fun _ => rfl, fun _ => rfl, fun _ => rfl, fun _ => rfl, fun _ => rfl, fun _ => rfl, fun _ => rfl, fun _ => rfl, fun _ => rfl, fun _ => rfl, fun _ => rfl, fun _ => rfl, fun _ => rfl, fun _ => rfl, fun _ => rfl, fun _ => rfl⟩
set_option maxRecDepth 100000 in
theorem gd_X4_readNumber : mGood MX4_readNumber := ⟨by decide +kernel, by decide +kernel, by decide +kernel⟩
set_option maxRecDepth 100000 in
set_option maxHeartbeats 4000000 in
theorem ft_X4_isFigure : (∀ f : mE → Prop, w_o (mft MX4_isFigure 0) f = f (.aload_n 0, 1, 0, 0, 0, 0, 0)) ∧
  (∀ f : mE → Prop, w_o (mft MX4_isFigure 1) f = f (.getfield 9, 4, 4, 0, 0, 0, 0)) ∧
  (∀ f : mE → Prop, w_o (mft MX4_isFigure 4) f = f (.iload_n 1, 5, 1, 0, 0, 0, 0)) ∧
  (∀ f : mE → Prop, w_o (mft MX4_isFigure 5) f = f (.baload, 6, 1, 0, 0, 0, 0)) ∧
  (∀ f : mE → Prop, w_o (mft MX4_isFigure 6) f = f (.bipush 48, 8, 0, 0, 0, (48), 0)) ∧
  (∀ f : mE → Prop, w_o (mft MX4_isFigure 8) f = f (.if_icmp .lt 18, 11, 26, 0, 0, 0, 0)) ∧
  (∀ f : mE → Prop, w_o (mft MX4_isFigure 11) f = f (.aload_n 0, 12, 0, 0, 0, 0, 0)) ∧
  (∀ f : mE → Prop, w_o (mft MX4_isFigure 12) f = f (.getfield 9, 15, 4, 0, 0, 0, 0)) ∧
  (∀ f : mE → Prop, w_o (mft MX4_isFigure 15) f = f (.iload_n 1, 16, 1, 0, 0, 0, 0)) ∧
  (∀ f : mE → Prop, w_o (mft MX4_isFigure 16) f = f (.baload, 17, 1, 0, 0, 0, 0)) ∧
  (∀ f : mE → Prop, w_o (mft MX4_isFigure 17) f = f (.bipush 57, 19, 0, 0, 0, (57), 0)) ∧
  (∀ f : mE → Prop, w_o (mft MX4_isFigure 19) f = f (.if_icmp .gt 7, 22, 26, 0, 0, 0, 0)) ∧
  (∀ f : mE → Prop, w_o (mft MX4_isFigure 22) f = f (.iconst 1, 23, 0, 0, 0, (1), 0)) ∧
  (∀ f : mE → Prop, w_o (mft MX4_isFigure 23) f = f (.goto 4, 26, 27, 0, 0, 0, 0)) ∧
  (∀ f : mE → Prop, w_o (mft MX4_isFigure 26) f = f (.iconst 0, 27, 0, 0, 0, (0), 0)) ∧
  (∀ f : mE → Prop, w_o (mft MX4_isFigure 27) f = f (.ireturn, 28, 0, 0, 1, 0, 0)) := ⟨fun _ => rfl, fun _ => rfl, fun _ => rfl, fun _ => rfl, fun _ => rfl, fun _ => rfl, fun _ => rfl, fun _ => rfl, fun _ => rfl, fun _ => rfl, fun _ => rfl, fun _ => rfl, fun _ => rfl, fun _ => rfl, fun _ => rfl, fun _ => rfl⟩
set_option maxRecDepth 100000 in
theorem gd_X4_isFigure : mGood MX4_isFigure := ⟨by decide +kernel, by decide +kernel, by decide +kernel⟩
