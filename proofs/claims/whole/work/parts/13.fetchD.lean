/-! what stands where in each method, written by wip/whole/gen.py -/
set_option maxRecDepth 100000 in
set_option maxHeartbeats 4000000 in
theorem ft_L_law_0 : (∀ f : mE → Prop, w_o (mft ML_law 0) f = f (.new 7, 3, 0, 0, 0, 0, 0)) ∧
  (∀ f : mE → Prop, w_o (mft ML_law 3) f = f (.dup, 4, 0, 0, 0, 0, 0)) ∧
  (∀ f : mE → Prop, w_o (mft ML_law 4) f = f (.invokespecial 9, 7, 76, 0, 6, 0, 0)) ∧
  (∀ f : mE → Prop, w_o (mft ML_law 7) f = f (.astore_n 1, 8, 1, 0, 0, 0, 0)) ∧
  (∀ f : mE → Prop, w_o (mft ML_law 8) f = f (.new 10, 11, 0, 0, 0, 0, 0)) ∧
  (∀ f : mE → Prop, w_o (mft ML_law 11) f = f (.dup, 12, 0, 0, 0, 0, 0)) ∧
  (∀ f : mE → Prop, w_o (mft ML_law 12) f = f (.invokespecial 12, 15, 111, 0, 7, 0, 0)) ∧
  (∀ f : mE → Prop, w_o (mft ML_law 15) f = f (.astore_n 2, 16, 2, 0, 0, 0, 0)) ∧
  (∀ f : mE → Prop, w_o (mft ML_law 16) f = f (.iconst 0, 17, 0, 0, 0, (0), 0)) ∧
  (∀ f : mE → Prop, w_o (mft ML_law 17) f = f (.istore_n 3, 18, 3, 0, 0, 0, 0)) ∧
  (∀ f : mE → Prop, w_o (mft ML_law 18) f = f (.iload_n 3, 19, 3, 0, 0, 0, 0)) ∧
  (∀ f : mE → Prop, w_o (mft ML_law 19) f = f (.aload_n 0, 20, 0, 0, 0, 0, 0)) ∧
  (∀ f : mE → Prop, w_o (mft ML_law 20) f = f (.arraylength, 21, 0, 0, 0, 0, 0)) ∧
  (∀ f : mE → Prop, w_o (mft ML_law 21) f = f (.iconst 5, 22, 0, 0, 0, (5), 0)) ∧
  (∀ f : mE → Prop, w_o (mft ML_law 22) f = f (.isub, 23, 0, 0, 0, 0, 0)) ∧
  (∀ f : mE → Prop, w_o (mft ML_law 23) f = f (.if_icmp .gt 989, 26, 1012, 0, 0, 0, 0)) ∧
  (∀ f : mE → Prop, w_o (mft ML_law 26) f = f (.aload_n 0, 27, 0, 0, 0, 0, 0)) ∧
  (∀ f : mE → Prop, w_o (mft ML_law 27) f = f (.iload_n 3, 28, 3, 0, 0, 0, 0)) ∧
  (∀ f : mE → Prop, w_o (mft ML_law 28) f = f (.iaload, 29, 0, 0, 0, 0, 0)) ∧
  (∀ f : mE → Prop, w_o (mft ML_law 29) f = f (.bipush 31, 31, 0, 0, 0, (31), 0)) ∧
  (∀ f : mE → Prop, w_o (mft ML_law 31) f = f (.iand, 32, 0, 0, 0, 0, 0)) ∧
  (∀ f : mE → Prop, w_o (mft ML_law 32) f = f (.tableswitch 974 0 23 #[112, 165, 188, 201, 214, 257, 300, 353, 376, 389, 432, 465, 508, 551, 594, 627, 660, 703, 746, 789, 842, 885, 918, 951], 144, 0, 0, 0, 0, 0)) ∧
  (∀ f : mE → Prop, w_o (mft ML_law 144) f = f (.aload_n 1, 145, 1, 0, 0, 0, 0)) ∧
  (∀ f : mE → Prop, w_o (mft ML_law 145) f = f (.aload_n 0, 146, 0, 0, 0, 0, 0)) ∧
  (∀ f : mE → Prop, w_o (mft ML_law 146) f = f (.iload_n 3, 147, 3, 0, 0, 0, 0)) ∧
  (∀ f : mE → Prop, w_o (mft ML_law 147) f = f (.iconst 1, 148, 0, 0, 0, (1), 0)) ∧
  (∀ f : mE → Prop, w_o (mft ML_law 148) f = f (.iadd, 149, 0, 0, 0, 0, 0)) ∧
  (∀ f : mE → Prop, w_o (mft ML_law 149) f = f (.iaload, 150, 0, 0, 0, 0, 0)) ∧
  (∀ f : mE → Prop, w_o (mft ML_law 150) f = f (.i2l, 151, 0, 0, 0, 0, 0)) ∧
  (∀ f : mE → Prop, w_o (mft ML_law 151) f = f (.bipush 32, 153, 0, 0, 0, (32), 0)) ∧
  (∀ f : mE → Prop, w_o (mft ML_law 153) f = f (.lshl, 154, 0, 0, 0, 0, 0)) ∧
  (∀ f : mE → Prop, w_o (mft ML_law 154) f = f (.aload_n 0, 155, 0, 0, 0, 0, 0)) ∧
  (∀ f : mE → Prop, w_o (mft ML_law 155) f = f (.iload_n 3, 156, 3, 0, 0, 0, 0)) ∧
  (∀ f : mE → Prop, w_o (mft ML_law 156) f = f (.iconst 2, 157, 0, 0, 0, (2), 0)) ∧
  (∀ f : mE → Prop, w_o (mft ML_law 157) f = f (.iadd, 158, 0, 0, 0, 0, 0)) ∧
  (∀ f : mE → Prop, w_o (mft ML_law 158) f = f (.iaload, 159, 0, 0, 0, 0, 0)) ∧
  (∀ f : mE → Prop, w_o (mft ML_law 159) f = f (.i2l, 160, 0, 0, 0, 0, 0)) ∧
  (∀ f : mE → Prop, w_o (mft ML_law 160) f = f (.ldc2_w 13, 163, 0, 0, 0, 0, (4294967295))) ∧
  (∀ f : mE → Prop, w_o (mft ML_law 163) f = f (.land, 164, 0, 0, 0, 0, 0)) ∧
  (∀ f : mE → Prop, w_o (mft ML_law 164) f = f (.lor, 165, 0, 0, 0, 0, 0)) := ⟨fun _ => rfl, fun _ => rfl, fun _ => rfl, fun _ => rfl, fun _ => rfl, fun _ => rfl, fun _ => rfl, fun _ => rfl, fun _ => rfl, fun _ => rfl, fun _ => rfl, fun _ => rfl, fun _ => rfl, fun _ => rfl, fun _ => rfl, fun _ => rfl, fun _ => rfl, fun _ => rfl, fun _ => rfl, fun _ => rfl, fun _ => rfl, fun _ => rfl, fun _ => rfl, fun _ => rfl, fun _ => rfl, fun _ => rfl, fun _ => rfl, fun _ => rfl, fun _ => rfl, fun _ => rfl, fun _ => rfl, fun _ => rfl, fun _ => rfl, fun _ => rfl, fun _ => rfl, fun _ => rfl, fun _ => rfl, fun _ => rfl, fun _ => rfl, fun _ => rfl⟩
set_option maxRecDepth 100000 in
set_option maxHeartbeats 4000000 in
theorem ft_L_law_1 : (∀ f : mE → Prop, w_o (mft ML_law 165) f = f (.invokevirtual 15, 168, 77, 1, 6, 0, 0)) ∧
  (∀ f : mE → Prop, w_o (mft ML_law 168) f = f (.aload_n 2, 169, 2, 0, 0, 0, 0)) ∧
  (∀ f : mE → Prop, w_o (mft ML_law 169) f = f (.aload_n 0, 170, 0, 0, 0, 0, 0)) ∧
  (∀ f : mE → Prop, w_o (mft ML_law 170) f = f (.iload_n 3, 171, 3, 0, 0, 0, 0)) ∧
  (∀ f : mE → Prop, w_o (mft ML_law 171) f = f (.iconst 1, 172, 0, 0, 0, (1), 0)) ∧
  (∀ f : mE → Prop, w_o (mft ML_law 172) f = f (.iadd, 173, 0, 0, 0, 0, 0)) ∧
  (∀ f : mE → Prop, w_o (mft ML_law 173) f = f (.iaload, 174, 0, 0, 0, 0, 0)) ∧
  (∀ f : mE → Prop, w_o (mft ML_law 174) f = f (.i2l, 175, 0, 0, 0, 0, 0)) ∧
  (∀ f : mE → Prop, w_o (mft ML_law 175) f = f (.bipush 32, 177, 0, 0, 0, (32), 0)) ∧
  (∀ f : mE → Prop, w_o (mft ML_law 177) f = f (.lshl, 178, 0, 0, 0, 0, 0)) ∧
  (∀ f : mE → Prop, w_o (mft ML_law 178) f = f (.aload_n 0, 179, 0, 0, 0, 0, 0)) ∧
  (∀ f : mE → Prop, w_o (mft ML_law 179) f = f (.iload_n 3, 180, 3, 0, 0, 0, 0)) ∧
  (∀ f : mE → Prop, w_o (mft ML_law 180) f = f (.iconst 2, 181, 0, 0, 0, (2), 0)) ∧
  (∀ f : mE → Prop, w_o (mft ML_law 181) f = f (.iadd, 182, 0, 0, 0, 0, 0)) ∧
  (∀ f : mE → Prop, w_o (mft ML_law 182) f = f (.iaload, 183, 0, 0, 0, 0, 0)) ∧
  (∀ f : mE → Prop, w_o (mft ML_law 183) f = f (.i2l, 184, 0, 0, 0, 0, 0)) ∧
  (∀ f : mE → Prop, w_o (mft ML_law 184) f = f (.ldc2_w 13, 187, 0, 0, 0, 0, (4294967295))) ∧
  (∀ f : mE → Prop, w_o (mft ML_law 187) f = f (.land, 188, 0, 0, 0, 0, 0)) ∧
  (∀ f : mE → Prop, w_o (mft ML_law 188) f = f (.lor, 189, 0, 0, 0, 0, 0)) ∧
  (∀ f : mE → Prop, w_o (mft ML_law 189) f = f (.invokevirtual 19, 192, 122, 1, 7, 0, 0)) ∧
  (∀ f : mE → Prop, w_o (mft ML_law 192) f = f (.if_icmp .eq 814, 195, 1006, 0, 0, 0, 0)) ∧
  (∀ f : mE → Prop, w_o (mft ML_law 195) f = f (.iconst 0, 196, 0, 0, 0, (0), 0)) ∧
  (∀ f : mE → Prop, w_o (mft ML_law 196) f = f (.ireturn, 197, 0, 0, 1, 0, 0)) ∧
  (∀ f : mE → Prop, w_o (mft ML_law 197) f = f (.aload_n 1, 198, 1, 0, 0, 0, 0)) ∧
  (∀ f : mE → Prop, w_o (mft ML_law 198) f = f (.aload_n 0, 199, 0, 0, 0, 0, 0)) ∧
  (∀ f : mE → Prop, w_o (mft ML_law 199) f = f (.iload_n 3, 200, 3, 0, 0, 0, 0)) ∧
  (∀ f : mE → Prop, w_o (mft ML_law 200) f = f (.iconst 1, 201, 0, 0, 0, (1), 0)) ∧
  (∀ f : mE → Prop, w_o (mft ML_law 201) f = f (.iadd, 202, 0, 0, 0, 0, 0)) ∧
  (∀ f : mE → Prop, w_o (mft ML_law 202) f = f (.iaload, 203, 0, 0, 0, 0, 0)) ∧
  (∀ f : mE → Prop, w_o (mft ML_law 203) f = f (.invokevirtual 20, 206, 78, 1, 6, 0, 0)) ∧
  (∀ f : mE → Prop, w_o (mft ML_law 206) f = f (.aload_n 2, 207, 2, 0, 0, 0, 0)) ∧
  (∀ f : mE → Prop, w_o (mft ML_law 207) f = f (.aload_n 0, 208, 0, 0, 0, 0, 0)) ∧
  (∀ f : mE → Prop, w_o (mft ML_law 208) f = f (.iload_n 3, 209, 3, 0, 0, 0, 0)) ∧
  (∀ f : mE → Prop, w_o (mft ML_law 209) f = f (.iconst 1, 210, 0, 0, 0, (1), 0)) ∧
  (∀ f : mE → Prop, w_o (mft ML_law 210) f = f (.iadd, 211, 0, 0, 0, 0, 0)) ∧
  (∀ f : mE → Prop, w_o (mft ML_law 211) f = f (.iaload, 212, 0, 0, 0, 0, 0)) ∧
  (∀ f : mE → Prop, w_o (mft ML_law 212) f = f (.invokevirtual 24, 215, 123, 1, 7, 0, 0)) ∧
  (∀ f : mE → Prop, w_o (mft ML_law 215) f = f (.if_icmp .eq 791, 218, 1006, 0, 0, 0, 0)) ∧
  (∀ f : mE → Prop, w_o (mft ML_law 218) f = f (.iconst 0, 219, 0, 0, 0, (0), 0)) ∧
  (∀ f : mE → Prop, w_o (mft ML_law 219) f = f (.ireturn, 220, 0, 0, 1, 0, 0)) := ⟨fun _ => rfl, fun _ => rfl, fun _ => rfl, fun _ => rfl, fun _ => rfl, fun _ => rfl, fun _ => rfl, fun _ => rfl, fun _ => rfl, fun _ => rfl, fun _ => rfl, fun _ => rfl, fun _ => rfl, fun _ => rfl, fun _ => rfl, fun _ => rfl, fun _ => rfl, fun _ => rfl, fun _ => rfl, fun _ => rfl, fun _ => rfl, fun _ => rfl, fun _ => rfl, fun _ => rfl, fun _ => rfl, fun _ => rfl, fun _ => rfl, fun _ => rfl, fun _ => rfl, fun _ => rfl, fun _ => rfl, fun _ => rfl, fun _ => rfl, fun _ => rfl, fun _ => rfl, fun _ => rfl, fun _ => rfl, fun _ => rfl, fun _ => rfl, fun _ => rfl⟩
set_option maxRecDepth 100000 in
set_option maxHeartbeats 4000000 in
theorem ft_L_law_2 : (∀ f : mE → Prop, w_o (mft ML_law 220) f = f (.aload_n 1, 221, 1, 0, 0, 0, 0)) ∧
  (∀ f : mE → Prop, w_o (mft ML_law 221) f = f (.invokevirtual 25, 224, 79, 0, 6, 0, 0)) ∧
  (∀ f : mE → Prop, w_o (mft ML_law 224) f = f (.aload_n 2, 225, 2, 0, 0, 0, 0)) ∧
  (∀ f : mE → Prop, w_o (mft ML_law 225) f = f (.invokevirtual 29, 228, 131, 0, 7, 0, 0)) ∧
  (∀ f : mE → Prop, w_o (mft ML_law 228) f = f (.if_icmp .eq 778, 231, 1006, 0, 0, 0, 0)) ∧
  (∀ f : mE → Prop, w_o (mft ML_law 231) f = f (.iconst 0, 232, 0, 0, 0, (0), 0)) ∧
  (∀ f : mE → Prop, w_o (mft ML_law 232) f = f (.ireturn, 233, 0, 0, 1, 0, 0)) ∧
  (∀ f : mE → Prop, w_o (mft ML_law 233) f = f (.aload_n 1, 234, 1, 0, 0, 0, 0)) ∧
  (∀ f : mE → Prop, w_o (mft ML_law 234) f = f (.invokevirtual 30, 237, 80, 0, 6, 0, 0)) ∧
  (∀ f : mE → Prop, w_o (mft ML_law 237) f = f (.aload_n 2, 238, 2, 0, 0, 0, 0)) ∧
  (∀ f : mE → Prop, w_o (mft ML_law 238) f = f (.invokevirtual 33, 241, 132, 0, 7, 0, 0)) ∧
  (∀ f : mE → Prop, w_o (mft ML_law 241) f = f (.if_icmp .eq 765, 244, 1006, 0, 0, 0, 0)) ∧
  (∀ f : mE → Prop, w_o (mft ML_law 244) f = f (.iconst 0, 245, 0, 0, 0, (0), 0)) ∧
  (∀ f : mE → Prop, w_o (mft ML_law 245) f = f (.ireturn, 246, 0, 0, 1, 0, 0)) ∧
  (∀ f : mE → Prop, w_o (mft ML_law 246) f = f (.aload_n 1, 247, 1, 0, 0, 0, 0)) ∧
  (∀ f : mE → Prop, w_o (mft ML_law 247) f = f (.aload_n 0, 248, 0, 0, 0, 0, 0)) ∧
  (∀ f : mE → Prop, w_o (mft ML_law 248) f = f (.iload_n 3, 249, 3, 0, 0, 0, 0)) ∧
  (∀ f : mE → Prop, w_o (mft ML_law 249) f = f (.iconst 1, 250, 0, 0, 0, (1), 0)) ∧
  (∀ f : mE → Prop, w_o (mft ML_law 250) f = f (.iadd, 251, 0, 0, 0, 0, 0)) ∧
  (∀ f : mE → Prop, w_o (mft ML_law 251) f = f (.iaload, 252, 0, 0, 0, 0, 0)) ∧
  (∀ f : mE → Prop, w_o (mft ML_law 252) f = f (.aload_n 0, 253, 0, 0, 0, 0, 0)) ∧
  (∀ f : mE → Prop, w_o (mft ML_law 253) f = f (.iload_n 3, 254, 3, 0, 0, 0, 0)) ∧
  (∀ f : mE → Prop, w_o (mft ML_law 254) f = f (.iconst 2, 255, 0, 0, 0, (2), 0)) ∧
  (∀ f : mE → Prop, w_o (mft ML_law 255) f = f (.iadd, 256, 0, 0, 0, 0, 0)) ∧
  (∀ f : mE → Prop, w_o (mft ML_law 256) f = f (.iaload, 257, 0, 0, 0, 0, 0)) ∧
  (∀ f : mE → Prop, w_o (mft ML_law 257) f = f (.aload_n 0, 258, 0, 0, 0, 0, 0)) ∧
  (∀ f : mE → Prop, w_o (mft ML_law 258) f = f (.iload_n 3, 259, 3, 0, 0, 0, 0)) ∧
  (∀ f : mE → Prop, w_o (mft ML_law 259) f = f (.iconst 3, 260, 0, 0, 0, (3), 0)) ∧
  (∀ f : mE → Prop, w_o (mft ML_law 260) f = f (.iadd, 261, 0, 0, 0, 0, 0)) ∧
  (∀ f : mE → Prop, w_o (mft ML_law 261) f = f (.iaload, 262, 0, 0, 0, 0, 0)) ∧
  (∀ f : mE → Prop, w_o (mft ML_law 262) f = f (.invokevirtual 34, 265, 81, 3, 6, 0, 0)) ∧
  (∀ f : mE → Prop, w_o (mft ML_law 265) f = f (.aload_n 2, 266, 2, 0, 0, 0, 0)) ∧
  (∀ f : mE → Prop, w_o (mft ML_law 266) f = f (.aload_n 0, 267, 0, 0, 0, 0, 0)) ∧
  (∀ f : mE → Prop, w_o (mft ML_law 267) f = f (.iload_n 3, 268, 3, 0, 0, 0, 0)) ∧
  (∀ f : mE → Prop, w_o (mft ML_law 268) f = f (.iconst 1, 269, 0, 0, 0, (1), 0)) ∧
  (∀ f : mE → Prop, w_o (mft ML_law 269) f = f (.iadd, 270, 0, 0, 0, 0, 0)) ∧
  (∀ f : mE → Prop, w_o (mft ML_law 270) f = f (.iaload, 271, 0, 0, 0, 0, 0)) ∧
  (∀ f : mE → Prop, w_o (mft ML_law 271) f = f (.aload_n 0, 272, 0, 0, 0, 0, 0)) ∧
  (∀ f : mE → Prop, w_o (mft ML_law 272) f = f (.iload_n 3, 273, 3, 0, 0, 0, 0)) ∧
  (∀ f : mE → Prop, w_o (mft ML_law 273) f = f (.iconst 2, 274, 0, 0, 0, (2), 0)) := ⟨fun _ => rfl, fun _ => rfl, fun _ => rfl, fun _ => rfl, fun _ => rfl, fun _ => rfl, fun _ => rfl, fun _ => rfl, fun _ => rfl, fun _ => rfl, fun _ => rfl, fun _ => rfl, fun _ => rfl, fun _ => rfl, fun _ => rfl, fun _ => rfl, fun _ => rfl, fun _ => rfl, fun _ => rfl, fun _ => rfl, fun _ => rfl, fun _ => rfl, fun _ => rfl, fun _ => rfl, fun _ => rfl, fun _ => rfl, fun _ => rfl, fun _ => rfl, fun _ => rfl, fun _ => rfl, fun _ => rfl, fun _ => rfl, fun _ => rfl, fun _ => rfl, fun _ => rfl, fun _ => rfl, fun _ => rfl, fun _ => rfl, fun _ => rfl, fun _ => rfl⟩
set_option maxRecDepth 100000 in
set_option maxHeartbeats 4000000 in
theorem ft_L_law_3 : (∀ f : mE → Prop, w_o (mft ML_law 274) f = f (.iadd, 275, 0, 0, 0, 0, 0)) ∧
  (∀ f : mE → Prop, w_o (mft ML_law 275) f = f (.iaload, 276, 0, 0, 0, 0, 0)) ∧
  (∀ f : mE → Prop, w_o (mft ML_law 276) f = f (.aload_n 0, 277, 0, 0, 0, 0, 0)) ∧
  (∀ f : mE → Prop, w_o (mft ML_law 277) f = f (.iload_n 3, 278, 3, 0, 0, 0, 0)) ∧
  (∀ f : mE → Prop, w_o (mft ML_law 278) f = f (.iconst 3, 279, 0, 0, 0, (3), 0)) ∧
  (∀ f : mE → Prop, w_o (mft ML_law 279) f = f (.iadd, 280, 0, 0, 0, 0, 0)) ∧
  (∀ f : mE → Prop, w_o (mft ML_law 280) f = f (.iaload, 281, 0, 0, 0, 0, 0)) ∧
  (∀ f : mE → Prop, w_o (mft ML_law 281) f = f (.invokevirtual 38, 284, 133, 3, 7, 0, 0)) ∧
  (∀ f : mE → Prop, w_o (mft ML_law 284) f = f (.if_icmp .eq 722, 287, 1006, 0, 0, 0, 0)) ∧
  (∀ f : mE → Prop, w_o (mft ML_law 287) f = f (.iconst 0, 288, 0, 0, 0, (0), 0)) ∧
  (∀ f : mE → Prop, w_o (mft ML_law 288) f = f (.ireturn, 289, 0, 0, 1, 0, 0)) ∧
  (∀ f : mE → Prop, w_o (mft ML_law 289) f = f (.aload_n 1, 290, 1, 0, 0, 0, 0)) ∧
  (∀ f : mE → Prop, w_o (mft ML_law 290) f = f (.aload_n 0, 291, 0, 0, 0, 0, 0)) ∧
  (∀ f : mE → Prop, w_o (mft ML_law 291) f = f (.iload_n 3, 292, 3, 0, 0, 0, 0)) ∧
  (∀ f : mE → Prop, w_o (mft ML_law 292) f = f (.iconst 1, 293, 0, 0, 0, (1), 0)) ∧
  (∀ f : mE → Prop, w_o (mft ML_law 293) f = f (.iadd, 294, 0, 0, 0, 0, 0)) ∧
  (∀ f : mE → Prop, w_o (mft ML_law 294) f = f (.iaload, 295, 0, 0, 0, 0, 0)) ∧
  (∀ f : mE → Prop, w_o (mft ML_law 295) f = f (.aload_n 0, 296, 0, 0, 0, 0, 0)) ∧
  (∀ f : mE → Prop, w_o (mft ML_law 296) f = f (.iload_n 3, 297, 3, 0, 0, 0, 0)) ∧
  (∀ f : mE → Prop, w_o (mft ML_law 297) f = f (.iconst 2, 298, 0, 0, 0, (2), 0)) ∧
  (∀ f : mE → Prop, w_o (mft ML_law 298) f = f (.iadd, 299, 0, 0, 0, 0, 0)) ∧
  (∀ f : mE → Prop, w_o (mft ML_law 299) f = f (.iaload, 300, 0, 0, 0, 0, 0)) ∧
  (∀ f : mE → Prop, w_o (mft ML_law 300) f = f (.aload_n 0, 301, 0, 0, 0, 0, 0)) ∧
  (∀ f : mE → Prop, w_o (mft ML_law 301) f = f (.iload_n 3, 302, 3, 0, 0, 0, 0)) ∧
  (∀ f : mE → Prop, w_o (mft ML_law 302) f = f (.iconst 3, 303, 0, 0, 0, (3), 0)) ∧
  (∀ f : mE → Prop, w_o (mft ML_law 303) f = f (.iadd, 304, 0, 0, 0, 0, 0)) ∧
  (∀ f : mE → Prop, w_o (mft ML_law 304) f = f (.iaload, 305, 0, 0, 0, 0, 0)) ∧
  (∀ f : mE → Prop, w_o (mft ML_law 305) f = f (.invokevirtual 39, 308, 82, 3, 6, 0, 0)) ∧
  (∀ f : mE → Prop, w_o (mft ML_law 308) f = f (.aload_n 2, 309, 2, 0, 0, 0, 0)) ∧
  (∀ f : mE → Prop, w_o (mft ML_law 309) f = f (.aload_n 0, 310, 0, 0, 0, 0, 0)) ∧
  (∀ f : mE → Prop, w_o (mft ML_law 310) f = f (.iload_n 3, 311, 3, 0, 0, 0, 0)) ∧
  (∀ f : mE → Prop, w_o (mft ML_law 311) f = f (.iconst 1, 312, 0, 0, 0, (1), 0)) ∧
  (∀ f : mE → Prop, w_o (mft ML_law 312) f = f (.iadd, 313, 0, 0, 0, 0, 0)) ∧
  (∀ f : mE → Prop, w_o (mft ML_law 313) f = f (.iaload, 314, 0, 0, 0, 0, 0)) ∧
  (∀ f : mE → Prop, w_o (mft ML_law 314) f = f (.aload_n 0, 315, 0, 0, 0, 0, 0)) ∧
  (∀ f : mE → Prop, w_o (mft ML_law 315) f = f (.iload_n 3, 316, 3, 0, 0, 0, 0)) ∧
  (∀ f : mE → Prop, w_o (mft ML_law 316) f = f (.iconst 2, 317, 0, 0, 0, (2), 0)) ∧
  (∀ f : mE → Prop, w_o (mft ML_law 317) f = f (.iadd, 318, 0, 0, 0, 0, 0)) ∧
  (∀ f : mE → Prop, w_o (mft ML_law 318) f = f (.iaload, 319, 0, 0, 0, 0, 0)) ∧
  (∀ f : mE → Prop, w_o (mft ML_law 319) f = f (.aload_n 0, 320, 0, 0, 0, 0, 0)) := ⟨fun _ => rfl, fun _ => rfl, fun _ => rfl, fun _ => rfl, fun _ => rfl, fun _ => rfl, fun _ => rfl, fun _ => rfl, fun _ => rfl, fun _ => rfl, fun _ => rfl, fun _ => rfl, fun _ => rfl, fun _ => rfl, fun _ => rfl, fun _ => rfl, fun _ => rfl, fun _ => rfl, fun _ => rfl, fun _ => rfl, fun _ => rfl, fun _ => rfl, fun _ => rfl, fun _ => rfl, fun _ => rfl, fun _ => rfl, fun _ => rfl, fun _ => rfl, fun _ => rfl, fun _ => rfl, fun _ => rfl, fun _ => rfl, fun _ => rfl, fun _ => rfl, fun _ => rfl, fun _ => rfl, fun _ => rfl, fun _ => rfl, fun _ => rfl, fun _ => rfl⟩
set_option maxRecDepth 100000 in
set_option maxHeartbeats 4000000 in
theorem ft_L_law_4 : (∀ f : mE → Prop, w_o (mft ML_law 320) f = f (.iload_n 3, 321, 3, 0, 0, 0, 0)) ∧
  (∀ f : mE → Prop, w_o (mft ML_law 321) f = f (.iconst 3, 322, 0, 0, 0, (3), 0)) ∧
  (∀ f : mE → Prop, w_o (mft ML_law 322) f = f (.iadd, 323, 0, 0, 0, 0, 0)) ∧
  (∀ f : mE → Prop, w_o (mft ML_law 323) f = f (.iaload, 324, 0, 0, 0, 0, 0)) ∧
  (∀ f : mE → Prop, w_o (mft ML_law 324) f = f (.invokevirtual 42, 327, 134, 3, 7, 0, 0)) ∧
  (∀ f : mE → Prop, w_o (mft ML_law 327) f = f (.if_icmp .eq 679, 330, 1006, 0, 0, 0, 0)) ∧
  (∀ f : mE → Prop, w_o (mft ML_law 330) f = f (.iconst 0, 331, 0, 0, 0, (0), 0)) ∧
  (∀ f : mE → Prop, w_o (mft ML_law 331) f = f (.ireturn, 332, 0, 0, 1, 0, 0)) ∧
  (∀ f : mE → Prop, w_o (mft ML_law 332) f = f (.aload_n 1, 333, 1, 0, 0, 0, 0)) ∧
  (∀ f : mE → Prop, w_o (mft ML_law 333) f = f (.aload_n 0, 334, 0, 0, 0, 0, 0)) ∧
  (∀ f : mE → Prop, w_o (mft ML_law 334) f = f (.iload_n 3, 335, 3, 0, 0, 0, 0)) ∧
  (∀ f : mE → Prop, w_o (mft ML_law 335) f = f (.iconst 1, 336, 0, 0, 0, (1), 0)) ∧
  (∀ f : mE → Prop, w_o (mft ML_law 336) f = f (.iadd, 337, 0, 0, 0, 0, 0)) ∧
  (∀ f : mE → Prop, w_o (mft ML_law 337) f = f (.iaload, 338, 0, 0, 0, 0, 0)) ∧
  (∀ f : mE → Prop, w_o (mft ML_law 338) f = f (.aload_n 0, 339, 0, 0, 0, 0, 0)) ∧
  (∀ f : mE → Prop, w_o (mft ML_law 339) f = f (.iload_n 3, 340, 3, 0, 0, 0, 0)) ∧
  (∀ f : mE → Prop, w_o (mft ML_law 340) f = f (.iconst 2, 341, 0, 0, 0, (2), 0)) ∧
  (∀ f : mE → Prop, w_o (mft ML_law 341) f = f (.iadd, 342, 0, 0, 0, 0, 0)) ∧
  (∀ f : mE → Prop, w_o (mft ML_law 342) f = f (.iaload, 343, 0, 0, 0, 0, 0)) ∧
  (∀ f : mE → Prop, w_o (mft ML_law 343) f = f (.aload_n 0, 344, 0, 0, 0, 0, 0)) ∧
  (∀ f : mE → Prop, w_o (mft ML_law 344) f = f (.iload_n 3, 345, 3, 0, 0, 0, 0)) ∧
  (∀ f : mE → Prop, w_o (mft ML_law 345) f = f (.iconst 3, 346, 0, 0, 0, (3), 0)) ∧
  (∀ f : mE → Prop, w_o (mft ML_law 346) f = f (.iadd, 347, 0, 0, 0, 0, 0)) ∧
  (∀ f : mE → Prop, w_o (mft ML_law 347) f = f (.iaload, 348, 0, 0, 0, 0, 0)) ∧
  (∀ f : mE → Prop, w_o (mft ML_law 348) f = f (.aload_n 0, 349, 0, 0, 0, 0, 0)) ∧
  (∀ f : mE → Prop, w_o (mft ML_law 349) f = f (.iload_n 3, 350, 3, 0, 0, 0, 0)) ∧
  (∀ f : mE → Prop, w_o (mft ML_law 350) f = f (.iconst 4, 351, 0, 0, 0, (4), 0)) ∧
  (∀ f : mE → Prop, w_o (mft ML_law 351) f = f (.iadd, 352, 0, 0, 0, 0, 0)) ∧
  (∀ f : mE → Prop, w_o (mft ML_law 352) f = f (.iaload, 353, 0, 0, 0, 0, 0)) ∧
  (∀ f : mE → Prop, w_o (mft ML_law 353) f = f (.invokevirtual 43, 356, 83, 4, 6, 0, 0)) ∧
  (∀ f : mE → Prop, w_o (mft ML_law 356) f = f (.aload_n 2, 357, 2, 0, 0, 0, 0)) ∧
  (∀ f : mE → Prop, w_o (mft ML_law 357) f = f (.aload_n 0, 358, 0, 0, 0, 0, 0)) ∧
  (∀ f : mE → Prop, w_o (mft ML_law 358) f = f (.iload_n 3, 359, 3, 0, 0, 0, 0)) ∧
  (∀ f : mE → Prop, w_o (mft ML_law 359) f = f (.iconst 1, 360, 0, 0, 0, (1), 0)) ∧
  (∀ f : mE → Prop, w_o (mft ML_law 360) f = f (.iadd, 361, 0, 0, 0, 0, 0)) ∧
  (∀ f : mE → Prop, w_o (mft ML_law 361) f = f (.iaload, 362, 0, 0, 0, 0, 0)) ∧
  (∀ f : mE → Prop, w_o (mft ML_law 362) f = f (.aload_n 0, 363, 0, 0, 0, 0, 0)) ∧
  (∀ f : mE → Prop, w_o (mft ML_law 363) f = f (.iload_n 3, 364, 3, 0, 0, 0, 0)) ∧
  (∀ f : mE → Prop, w_o (mft ML_law 364) f = f (.iconst 2, 365, 0, 0, 0, (2), 0)) ∧
  (∀ f : mE → Prop, w_o (mft ML_law 365) f = f (.iadd, 366, 0, 0, 0, 0, 0)) := ⟨fun _ => rfl, fun _ => rfl, fun _ => rfl, fun _ => rfl, fun _ => rfl, fun _ => rfl, fun _ => rfl, fun _ => rfl, fun _ => rfl, fun _ => rfl, fun _ => rfl, fun _ => rfl, fun _ => rfl, fun _ => rfl, fun _ => rfl, fun _ => rfl, fun _ => rfl, fun _ => rfl, fun _ => rfl, fun _ => rfl, fun _ => rfl, fun _ => rfl, fun _ => rfl, fun _ => rfl, fun _ => rfl, fun _ => rfl, fun _ => rfl, fun _ => rfl, fun _ => rfl, fun _ => rfl, fun _ => rfl, fun _ => rfl, fun _ => rfl, fun _ => rfl, fun _ => rfl, fun _ => rfl, fun _ => rfl, fun _ => rfl, fun _ => rfl, fun _ => rfl⟩
set_option maxRecDepth 100000 in
set_option maxHeartbeats 4000000 in
theorem ft_L_law_5 : (∀ f : mE → Prop, w_o (mft ML_law 366) f = f (.iaload, 367, 0, 0, 0, 0, 0)) ∧
  (∀ f : mE → Prop, w_o (mft ML_law 367) f = f (.aload_n 0, 368, 0, 0, 0, 0, 0)) ∧
  (∀ f : mE → Prop, w_o (mft ML_law 368) f = f (.iload_n 3, 369, 3, 0, 0, 0, 0)) ∧
  (∀ f : mE → Prop, w_o (mft ML_law 369) f = f (.iconst 3, 370, 0, 0, 0, (3), 0)) ∧
  (∀ f : mE → Prop, w_o (mft ML_law 370) f = f (.iadd, 371, 0, 0, 0, 0, 0)) ∧
  (∀ f : mE → Prop, w_o (mft ML_law 371) f = f (.iaload, 372, 0, 0, 0, 0, 0)) ∧
  (∀ f : mE → Prop, w_o (mft ML_law 372) f = f (.aload_n 0, 373, 0, 0, 0, 0, 0)) ∧
  (∀ f : mE → Prop, w_o (mft ML_law 373) f = f (.iload_n 3, 374, 3, 0, 0, 0, 0)) ∧
  (∀ f : mE → Prop, w_o (mft ML_law 374) f = f (.iconst 4, 375, 0, 0, 0, (4), 0)) ∧
  (∀ f : mE → Prop, w_o (mft ML_law 375) f = f (.iadd, 376, 0, 0, 0, 0, 0)) ∧
  (∀ f : mE → Prop, w_o (mft ML_law 376) f = f (.iaload, 377, 0, 0, 0, 0, 0)) ∧
  (∀ f : mE → Prop, w_o (mft ML_law 377) f = f (.invokevirtual 47, 380, 135, 4, 7, 0, 0)) ∧
  (∀ f : mE → Prop, w_o (mft ML_law 380) f = f (.if_icmp .eq 626, 383, 1006, 0, 0, 0, 0)) ∧
  (∀ f : mE → Prop, w_o (mft ML_law 383) f = f (.iconst 0, 384, 0, 0, 0, (0), 0)) ∧
  (∀ f : mE → Prop, w_o (mft ML_law 384) f = f (.ireturn, 385, 0, 0, 1, 0, 0)) ∧
  (∀ f : mE → Prop, w_o (mft ML_law 385) f = f (.aload_n 1, 386, 1, 0, 0, 0, 0)) ∧
  (∀ f : mE → Prop, w_o (mft ML_law 386) f = f (.aload_n 0, 387, 0, 0, 0, 0, 0)) ∧
  (∀ f : mE → Prop, w_o (mft ML_law 387) f = f (.iload_n 3, 388, 3, 0, 0, 0, 0)) ∧
  (∀ f : mE → Prop, w_o (mft ML_law 388) f = f (.iconst 1, 389, 0, 0, 0, (1), 0)) ∧
  (∀ f : mE → Prop, w_o (mft ML_law 389) f = f (.iadd, 390, 0, 0, 0, 0, 0)) ∧
  (∀ f : mE → Prop, w_o (mft ML_law 390) f = f (.iaload, 391, 0, 0, 0, 0, 0)) ∧
  (∀ f : mE → Prop, w_o (mft ML_law 391) f = f (.invokevirtual 48, 394, 84, 1, 6, 0, 0)) ∧
  (∀ f : mE → Prop, w_o (mft ML_law 394) f = f (.aload_n 2, 395, 2, 0, 0, 0, 0)) ∧
  (∀ f : mE → Prop, w_o (mft ML_law 395) f = f (.aload_n 0, 396, 0, 0, 0, 0, 0)) ∧
  (∀ f : mE → Prop, w_o (mft ML_law 396) f = f (.iload_n 3, 397, 3, 0, 0, 0, 0)) ∧
  (∀ f : mE → Prop, w_o (mft ML_law 397) f = f (.iconst 1, 398, 0, 0, 0, (1), 0)) ∧
  (∀ f : mE → Prop, w_o (mft ML_law 398) f = f (.iadd, 399, 0, 0, 0, 0, 0)) ∧
  (∀ f : mE → Prop, w_o (mft ML_law 399) f = f (.iaload, 400, 0, 0, 0, 0, 0)) ∧
  (∀ f : mE → Prop, w_o (mft ML_law 400) f = f (.invokevirtual 51, 403, 136, 1, 7, 0, 0)) ∧
  (∀ f : mE → Prop, w_o (mft ML_law 403) f = f (.if_icmp .eq 603, 406, 1006, 0, 0, 0, 0)) ∧
  (∀ f : mE → Prop, w_o (mft ML_law 406) f = f (.iconst 0, 407, 0, 0, 0, (0), 0)) ∧
  (∀ f : mE → Prop, w_o (mft ML_law 407) f = f (.ireturn, 408, 0, 0, 1, 0, 0)) ∧
  (∀ f : mE → Prop, w_o (mft ML_law 408) f = f (.aload_n 1, 409, 1, 0, 0, 0, 0)) ∧
  (∀ f : mE → Prop, w_o (mft ML_law 409) f = f (.invokevirtual 52, 412, 85, 0, 6, 0, 0)) ∧
  (∀ f : mE → Prop, w_o (mft ML_law 412) f = f (.aload_n 2, 413, 2, 0, 0, 0, 0)) ∧
  (∀ f : mE → Prop, w_o (mft ML_law 413) f = f (.invokevirtual 55, 416, 137, 0, 7, 0, 0)) ∧
  (∀ f : mE → Prop, w_o (mft ML_law 416) f = f (.if_icmp .eq 590, 419, 1006, 0, 0, 0, 0)) ∧
  (∀ f : mE → Prop, w_o (mft ML_law 419) f = f (.iconst 0, 420, 0, 0, 0, (0), 0)) ∧
  (∀ f : mE → Prop, w_o (mft ML_law 420) f = f (.ireturn, 421, 0, 0, 1, 0, 0)) ∧
  (∀ f : mE → Prop, w_o (mft ML_law 421) f = f (.aload_n 1, 422, 1, 0, 0, 0, 0)) := ⟨fun _ => rfl, fun _ => rfl, fun _ => rfl, fun _ => rfl, fun _ => rfl, fun _ => rfl, fun _ => rfl, fun _ => rfl, fun _ => rfl, fun _ => rfl, fun _ => rfl, fun _ => rfl, fun _ => rfl, fun _ => rfl, fun _ => rfl, fun _ => rfl, fun _ => rfl, fun _ => rfl, fun _ => rfl, fun _ => rfl, fun _ => rfl, fun _ => rfl, fun _ => rfl, fun _ => rfl, fun _ => rfl, fun _ => rfl, fun _ => rfl, fun _ => rfl, fun _ => rfl, fun _ => rfl, fun _ => rfl, fun _ => rfl, fun _ => rfl, fun _ => rfl, fun _ => rfl, fun _ => rfl, fun _ => rfl, fun _ => rfl, fun _ => rfl, fun _ => rfl⟩
set_option maxRecDepth 100000 in
set_option maxHeartbeats 4000000 in
theorem ft_L_law_6 : (∀ f : mE → Prop, w_o (mft ML_law 422) f = f (.aload_n 0, 423, 0, 0, 0, 0, 0)) ∧
  (∀ f : mE → Prop, w_o (mft ML_law 423) f = f (.iload_n 3, 424, 3, 0, 0, 0, 0)) ∧
  (∀ f : mE → Prop, w_o (mft ML_law 424) f = f (.iconst 1, 425, 0, 0, 0, (1), 0)) ∧
  (∀ f : mE → Prop, w_o (mft ML_law 425) f = f (.iadd, 426, 0, 0, 0, 0, 0)) ∧
  (∀ f : mE → Prop, w_o (mft ML_law 426) f = f (.iaload, 427, 0, 0, 0, 0, 0)) ∧
  (∀ f : mE → Prop, w_o (mft ML_law 427) f = f (.aload_n 0, 428, 0, 0, 0, 0, 0)) ∧
  (∀ f : mE → Prop, w_o (mft ML_law 428) f = f (.iload_n 3, 429, 3, 0, 0, 0, 0)) ∧
  (∀ f : mE → Prop, w_o (mft ML_law 429) f = f (.iconst 2, 430, 0, 0, 0, (2), 0)) ∧
  (∀ f : mE → Prop, w_o (mft ML_law 430) f = f (.iadd, 431, 0, 0, 0, 0, 0)) ∧
  (∀ f : mE → Prop, w_o (mft ML_law 431) f = f (.iaload, 432, 0, 0, 0, 0, 0)) ∧
  (∀ f : mE → Prop, w_o (mft ML_law 432) f = f (.aload_n 0, 433, 0, 0, 0, 0, 0)) ∧
  (∀ f : mE → Prop, w_o (mft ML_law 433) f = f (.iload_n 3, 434, 3, 0, 0, 0, 0)) ∧
  (∀ f : mE → Prop, w_o (mft ML_law 434) f = f (.iconst 3, 435, 0, 0, 0, (3), 0)) ∧
  (∀ f : mE → Prop, w_o (mft ML_law 435) f = f (.iadd, 436, 0, 0, 0, 0, 0)) ∧
  (∀ f : mE → Prop, w_o (mft ML_law 436) f = f (.iaload, 437, 0, 0, 0, 0, 0)) ∧
  (∀ f : mE → Prop, w_o (mft ML_law 437) f = f (.invokevirtual 56, 440, 86, 3, 6, 0, 0)) ∧
  (∀ f : mE → Prop, w_o (mft ML_law 440) f = f (.aload_n 2, 441, 2, 0, 0, 0, 0)) ∧
  (∀ f : mE → Prop, w_o (mft ML_law 441) f = f (.aload_n 0, 442, 0, 0, 0, 0, 0)) ∧
  (∀ f : mE → Prop, w_o (mft ML_law 442) f = f (.iload_n 3, 443, 3, 0, 0, 0, 0)) ∧
  (∀ f : mE → Prop, w_o (mft ML_law 443) f = f (.iconst 1, 444, 0, 0, 0, (1), 0)) ∧
  (∀ f : mE → Prop, w_o (mft ML_law 444) f = f (.iadd, 445, 0, 0, 0, 0, 0)) ∧
  (∀ f : mE → Prop, w_o (mft ML_law 445) f = f (.iaload, 446, 0, 0, 0, 0, 0)) ∧
  (∀ f : mE → Prop, w_o (mft ML_law 446) f = f (.aload_n 0, 447, 0, 0, 0, 0, 0)) ∧
  (∀ f : mE → Prop, w_o (mft ML_law 447) f = f (.iload_n 3, 448, 3, 0, 0, 0, 0)) ∧
  (∀ f : mE → Prop, w_o (mft ML_law 448) f = f (.iconst 2, 449, 0, 0, 0, (2), 0)) ∧
  (∀ f : mE → Prop, w_o (mft ML_law 449) f = f (.iadd, 450, 0, 0, 0, 0, 0)) ∧
  (∀ f : mE → Prop, w_o (mft ML_law 450) f = f (.iaload, 451, 0, 0, 0, 0, 0)) ∧
  (∀ f : mE → Prop, w_o (mft ML_law 451) f = f (.aload_n 0, 452, 0, 0, 0, 0, 0)) ∧
  (∀ f : mE → Prop, w_o (mft ML_law 452) f = f (.iload_n 3, 453, 3, 0, 0, 0, 0)) ∧
  (∀ f : mE → Prop, w_o (mft ML_law 453) f = f (.iconst 3, 454, 0, 0, 0, (3), 0)) ∧
  (∀ f : mE → Prop, w_o (mft ML_law 454) f = f (.iadd, 455, 0, 0, 0, 0, 0)) ∧
  (∀ f : mE → Prop, w_o (mft ML_law 455) f = f (.iaload, 456, 0, 0, 0, 0, 0)) ∧
  (∀ f : mE → Prop, w_o (mft ML_law 456) f = f (.invokevirtual 59, 459, 138, 3, 7, 0, 0)) ∧
  (∀ f : mE → Prop, w_o (mft ML_law 459) f = f (.if_icmp .eq 547, 462, 1006, 0, 0, 0, 0)) ∧
  (∀ f : mE → Prop, w_o (mft ML_law 462) f = f (.iconst 0, 463, 0, 0, 0, (0), 0)) ∧
  (∀ f : mE → Prop, w_o (mft ML_law 463) f = f (.ireturn, 464, 0, 0, 1, 0, 0)) ∧
  (∀ f : mE → Prop, w_o (mft ML_law 464) f = f (.aload_n 1, 465, 1, 0, 0, 0, 0)) ∧
  (∀ f : mE → Prop, w_o (mft ML_law 465) f = f (.aload_n 0, 466, 0, 0, 0, 0, 0)) ∧
  (∀ f : mE → Prop, w_o (mft ML_law 466) f = f (.iload_n 3, 467, 3, 0, 0, 0, 0)) ∧
  (∀ f : mE → Prop, w_o (mft ML_law 467) f = f (.iconst 1, 468, 0, 0, 0, (1), 0)) := ⟨fun _ => rfl, fun _ => rfl, fun _ => rfl, fun _ => rfl, fun _ => rfl, fun _ => rfl, fun _ => rfl, fun _ => rfl, fun _ => rfl, fun _ => rfl, fun _ => rfl, fun _ => rfl, fun _ => rfl, fun _ => rfl, fun _ => rfl, fun _ => rfl, fun _ => rfl, fun _ => rfl, fun _ => rfl, fun _ => rfl, fun _ => rfl, fun _ => rfl, fun _ => rfl, fun _ => rfl, fun _ => rfl, fun _ => rfl, fun _ => rfl, fun _ => rfl, fun _ => rfl, fun _ => rfl, fun _ => rfl, fun _ => rfl, fun _ => rfl, fun _ => rfl, fun _ => rfl, fun _ => rfl, fun _ => rfl, fun _ => rfl, fun _ => rfl, fun _ => rfl⟩
set_option maxRecDepth 100000 in
set_option maxHeartbeats 4000000 in
theorem ft_L_law_7 : (∀ f : mE → Prop, w_o (mft ML_law 468) f = f (.iadd, 469, 0, 0, 0, 0, 0)) ∧
  (∀ f : mE → Prop, w_o (mft ML_law 469) f = f (.iaload, 470, 0, 0, 0, 0, 0)) ∧
  (∀ f : mE → Prop, w_o (mft ML_law 470) f = f (.aload_n 0, 471, 0, 0, 0, 0, 0)) ∧
  (∀ f : mE → Prop, w_o (mft ML_law 471) f = f (.iload_n 3, 472, 3, 0, 0, 0, 0)) ∧
  (∀ f : mE → Prop, w_o (mft ML_law 472) f = f (.iconst 2, 473, 0, 0, 0, (2), 0)) ∧
  (∀ f : mE → Prop, w_o (mft ML_law 473) f = f (.iadd, 474, 0, 0, 0, 0, 0)) ∧
  (∀ f : mE → Prop, w_o (mft ML_law 474) f = f (.iaload, 475, 0, 0, 0, 0, 0)) ∧
  (∀ f : mE → Prop, w_o (mft ML_law 475) f = f (.invokevirtual 60, 478, 87, 2, 6, 0, 0)) ∧
  (∀ f : mE → Prop, w_o (mft ML_law 478) f = f (.aload_n 2, 479, 2, 0, 0, 0, 0)) ∧
  (∀ f : mE → Prop, w_o (mft ML_law 479) f = f (.aload_n 0, 480, 0, 0, 0, 0, 0)) ∧
  (∀ f : mE → Prop, w_o (mft ML_law 480) f = f (.iload_n 3, 481, 3, 0, 0, 0, 0)) ∧
  (∀ f : mE → Prop, w_o (mft ML_law 481) f = f (.iconst 1, 482, 0, 0, 0, (1), 0)) ∧
  (∀ f : mE → Prop, w_o (mft ML_law 482) f = f (.iadd, 483, 0, 0, 0, 0, 0)) ∧
  (∀ f : mE → Prop, w_o (mft ML_law 483) f = f (.iaload, 484, 0, 0, 0, 0, 0)) ∧
  (∀ f : mE → Prop, w_o (mft ML_law 484) f = f (.aload_n 0, 485, 0, 0, 0, 0, 0)) ∧
  (∀ f : mE → Prop, w_o (mft ML_law 485) f = f (.iload_n 3, 486, 3, 0, 0, 0, 0)) ∧
  (∀ f : mE → Prop, w_o (mft ML_law 486) f = f (.iconst 2, 487, 0, 0, 0, (2), 0)) ∧
  (∀ f : mE → Prop, w_o (mft ML_law 487) f = f (.iadd, 488, 0, 0, 0, 0, 0)) ∧
  (∀ f : mE → Prop, w_o (mft ML_law 488) f = f (.iaload, 489, 0, 0, 0, 0, 0)) ∧
  (∀ f : mE → Prop, w_o (mft ML_law 489) f = f (.invokevirtual 64, 492, 142, 2, 7, 0, 0)) ∧
  (∀ f : mE → Prop, w_o (mft ML_law 492) f = f (.if_icmp .eq 514, 495, 1006, 0, 0, 0, 0)) ∧
  (∀ f : mE → Prop, w_o (mft ML_law 495) f = f (.iconst 0, 496, 0, 0, 0, (0), 0)) ∧
  (∀ f : mE → Prop, w_o (mft ML_law 496) f = f (.ireturn, 497, 0, 0, 1, 0, 0)) ∧
  (∀ f : mE → Prop, w_o (mft ML_law 497) f = f (.aload_n 1, 498, 1, 0, 0, 0, 0)) ∧
  (∀ f : mE → Prop, w_o (mft ML_law 498) f = f (.aload_n 0, 499, 0, 0, 0, 0, 0)) ∧
  (∀ f : mE → Prop, w_o (mft ML_law 499) f = f (.iload_n 3, 500, 3, 0, 0, 0, 0)) ∧
  (∀ f : mE → Prop, w_o (mft ML_law 500) f = f (.iconst 1, 501, 0, 0, 0, (1), 0)) ∧
  (∀ f : mE → Prop, w_o (mft ML_law 501) f = f (.iadd, 502, 0, 0, 0, 0, 0)) ∧
  (∀ f : mE → Prop, w_o (mft ML_law 502) f = f (.iaload, 503, 0, 0, 0, 0, 0)) ∧
  (∀ f : mE → Prop, w_o (mft ML_law 503) f = f (.aload_n 0, 504, 0, 0, 0, 0, 0)) ∧
  (∀ f : mE → Prop, w_o (mft ML_law 504) f = f (.iload_n 3, 505, 3, 0, 0, 0, 0)) ∧
  (∀ f : mE → Prop, w_o (mft ML_law 505) f = f (.iconst 2, 506, 0, 0, 0, (2), 0)) ∧
  (∀ f : mE → Prop, w_o (mft ML_law 506) f = f (.iadd, 507, 0, 0, 0, 0, 0)) ∧
  (∀ f : mE → Prop, w_o (mft ML_law 507) f = f (.iaload, 508, 0, 0, 0, 0, 0)) ∧
  (∀ f : mE → Prop, w_o (mft ML_law 508) f = f (.aload_n 0, 509, 0, 0, 0, 0, 0)) ∧
  (∀ f : mE → Prop, w_o (mft ML_law 509) f = f (.iload_n 3, 510, 3, 0, 0, 0, 0)) ∧
  (∀ f : mE → Prop, w_o (mft ML_law 510) f = f (.iconst 3, 511, 0, 0, 0, (3), 0)) ∧
  (∀ f : mE → Prop, w_o (mft ML_law 511) f = f (.iadd, 512, 0, 0, 0, 0, 0)) ∧
  (∀ f : mE → Prop, w_o (mft ML_law 512) f = f (.iaload, 513, 0, 0, 0, 0, 0)) ∧
  (∀ f : mE → Prop, w_o (mft ML_law 513) f = f (.invokevirtual 65, 516, 88, 3, 6, 0, 0)) := ⟨fun _ => rfl, fun _ => rfl, fun _ => rfl, fun _ => rfl, fun _ => rfl, fun _ => rfl, fun _ => rfl, fun _ => rfl, fun _ => rfl, fun _ => rfl, fun _ => rfl, fun _ => rfl, fun _ => rfl, fun _ => rfl, fun _ => rfl, fun _ => rfl, fun _ => rfl, fun _ => rfl, fun _ => rfl, fun _ => rfl, fun _ => rfl, fun _ => rfl, fun _ => rfl, fun _ => rfl, fun _ => rfl, fun _ => rfl, fun _ => rfl, fun _ => rfl, fun _ => rfl, fun _ => rfl, fun _ => rfl, fun _ => rfl, fun _ => rfl, fun _ => rfl, fun _ => rfl, fun _ => rfl, fun _ => rfl, fun _ => rfl, fun _ => rfl, fun _ => rfl⟩
set_option maxRecDepth 100000 in
set_option maxHeartbeats 4000000 in
theorem ft_L_law_8 : (∀ f : mE → Prop, w_o (mft ML_law 516) f = f (.aload_n 2, 517, 2, 0, 0, 0, 0)) ∧
  (∀ f : mE → Prop, w_o (mft ML_law 517) f = f (.aload_n 0, 518, 0, 0, 0, 0, 0)) ∧
  (∀ f : mE → Prop, w_o (mft ML_law 518) f = f (.iload_n 3, 519, 3, 0, 0, 0, 0)) ∧
  (∀ f : mE → Prop, w_o (mft ML_law 519) f = f (.iconst 1, 520, 0, 0, 0, (1), 0)) ∧
  (∀ f : mE → Prop, w_o (mft ML_law 520) f = f (.iadd, 521, 0, 0, 0, 0, 0)) ∧
  (∀ f : mE → Prop, w_o (mft ML_law 521) f = f (.iaload, 522, 0, 0, 0, 0, 0)) ∧
  (∀ f : mE → Prop, w_o (mft ML_law 522) f = f (.aload_n 0, 523, 0, 0, 0, 0, 0)) ∧
  (∀ f : mE → Prop, w_o (mft ML_law 523) f = f (.iload_n 3, 524, 3, 0, 0, 0, 0)) ∧
  (∀ f : mE → Prop, w_o (mft ML_law 524) f = f (.iconst 2, 525, 0, 0, 0, (2), 0)) ∧
  (∀ f : mE → Prop, w_o (mft ML_law 525) f = f (.iadd, 526, 0, 0, 0, 0, 0)) ∧
  (∀ f : mE → Prop, w_o (mft ML_law 526) f = f (.iaload, 527, 0, 0, 0, 0, 0)) ∧
  (∀ f : mE → Prop, w_o (mft ML_law 527) f = f (.aload_n 0, 528, 0, 0, 0, 0, 0)) ∧
  (∀ f : mE → Prop, w_o (mft ML_law 528) f = f (.iload_n 3, 529, 3, 0, 0, 0, 0)) ∧
  (∀ f : mE → Prop, w_o (mft ML_law 529) f = f (.iconst 3, 530, 0, 0, 0, (3), 0)) ∧
  (∀ f : mE → Prop, w_o (mft ML_law 530) f = f (.iadd, 531, 0, 0, 0, 0, 0)) ∧
  (∀ f : mE → Prop, w_o (mft ML_law 531) f = f (.iaload, 532, 0, 0, 0, 0, 0)) ∧
  (∀ f : mE → Prop, w_o (mft ML_law 532) f = f (.invokevirtual 68, 535, 143, 3, 7, 0, 0)) ∧
  (∀ f : mE → Prop, w_o (mft ML_law 535) f = f (.if_icmp .eq 471, 538, 1006, 0, 0, 0, 0)) ∧
  (∀ f : mE → Prop, w_o (mft ML_law 538) f = f (.iconst 0, 539, 0, 0, 0, (0), 0)) ∧
  (∀ f : mE → Prop, w_o (mft ML_law 539) f = f (.ireturn, 540, 0, 0, 1, 0, 0)) ∧
  (∀ f : mE → Prop, w_o (mft ML_law 540) f = f (.aload_n 1, 541, 1, 0, 0, 0, 0)) ∧
  (∀ f : mE → Prop, w_o (mft ML_law 541) f = f (.aload_n 0, 542, 0, 0, 0, 0, 0)) ∧
  (∀ f : mE → Prop, w_o (mft ML_law 542) f = f (.iload_n 3, 543, 3, 0, 0, 0, 0)) ∧
  (∀ f : mE → Prop, w_o (mft ML_law 543) f = f (.iconst 1, 544, 0, 0, 0, (1), 0)) ∧
  (∀ f : mE → Prop, w_o (mft ML_law 544) f = f (.iadd, 545, 0, 0, 0, 0, 0)) ∧
  (∀ f : mE → Prop, w_o (mft ML_law 545) f = f (.iaload, 546, 0, 0, 0, 0, 0)) ∧
  (∀ f : mE → Prop, w_o (mft ML_law 546) f = f (.aload_n 0, 547, 0, 0, 0, 0, 0)) ∧
  (∀ f : mE → Prop, w_o (mft ML_law 547) f = f (.iload_n 3, 548, 3, 0, 0, 0, 0)) ∧
  (∀ f : mE → Prop, w_o (mft ML_law 548) f = f (.iconst 2, 549, 0, 0, 0, (2), 0)) ∧
  (∀ f : mE → Prop, w_o (mft ML_law 549) f = f (.iadd, 550, 0, 0, 0, 0, 0)) ∧
  (∀ f : mE → Prop, w_o (mft ML_law 550) f = f (.iaload, 551, 0, 0, 0, 0, 0)) ∧
  (∀ f : mE → Prop, w_o (mft ML_law 551) f = f (.aload_n 0, 552, 0, 0, 0, 0, 0)) ∧
  (∀ f : mE → Prop, w_o (mft ML_law 552) f = f (.iload_n 3, 553, 3, 0, 0, 0, 0)) ∧
  (∀ f : mE → Prop, w_o (mft ML_law 553) f = f (.iconst 3, 554, 0, 0, 0, (3), 0)) ∧
  (∀ f : mE → Prop, w_o (mft ML_law 554) f = f (.iadd, 555, 0, 0, 0, 0, 0)) ∧
  (∀ f : mE → Prop, w_o (mft ML_law 555) f = f (.iaload, 556, 0, 0, 0, 0, 0)) ∧
  (∀ f : mE → Prop, w_o (mft ML_law 556) f = f (.invokevirtual 69, 559, 89, 3, 6, 0, 0)) ∧
  (∀ f : mE → Prop, w_o (mft ML_law 559) f = f (.aload_n 2, 560, 2, 0, 0, 0, 0)) ∧
  (∀ f : mE → Prop, w_o (mft ML_law 560) f = f (.aload_n 0, 561, 0, 0, 0, 0, 0)) ∧
  (∀ f : mE → Prop, w_o (mft ML_law 561) f = f (.iload_n 3, 562, 3, 0, 0, 0, 0)) := ⟨fun _ => rfl, fun _ => rfl, fun _ => rfl, fun _ => rfl, fun _ => rfl, fun _ => rfl, fun _ => rfl, fun _ => rfl, fun _ => rfl, fun _ => rfl, fun _ => rfl, fun _ => rfl, fun _ => rfl, fun _ => rfl, fun _ => rfl, fun _ => rfl, fun _ => rfl, fun _ => rfl, fun _ => rfl, fun _ => rfl, fun _ => rfl, fun _ => rfl, fun _ => rfl, fun _ => rfl, fun _ => rfl, fun _ => rfl, fun _ => rfl, fun _ => rfl, fun _ => rfl, fun _ => rfl, fun _ => rfl, fun _ => rfl, fun _ => rfl, fun _ => rfl, fun _ => rfl, fun _ => rfl, fun _ => rfl, fun _ => rfl, fun _ => rfl, fun _ => rfl⟩
set_option maxRecDepth 100000 in
set_option maxHeartbeats 4000000 in
theorem ft_L_law_9 : (∀ f : mE → Prop, w_o (mft ML_law 562) f = f (.iconst 1, 563, 0, 0, 0, (1), 0)) ∧
  (∀ f : mE → Prop, w_o (mft ML_law 563) f = f (.iadd, 564, 0, 0, 0, 0, 0)) ∧
  (∀ f : mE → Prop, w_o (mft ML_law 564) f = f (.iaload, 565, 0, 0, 0, 0, 0)) ∧
  (∀ f : mE → Prop, w_o (mft ML_law 565) f = f (.aload_n 0, 566, 0, 0, 0, 0, 0)) ∧
  (∀ f : mE → Prop, w_o (mft ML_law 566) f = f (.iload_n 3, 567, 3, 0, 0, 0, 0)) ∧
  (∀ f : mE → Prop, w_o (mft ML_law 567) f = f (.iconst 2, 568, 0, 0, 0, (2), 0)) ∧
  (∀ f : mE → Prop, w_o (mft ML_law 568) f = f (.iadd, 569, 0, 0, 0, 0, 0)) ∧
  (∀ f : mE → Prop, w_o (mft ML_law 569) f = f (.iaload, 570, 0, 0, 0, 0, 0)) ∧
  (∀ f : mE → Prop, w_o (mft ML_law 570) f = f (.aload_n 0, 571, 0, 0, 0, 0, 0)) ∧
  (∀ f : mE → Prop, w_o (mft ML_law 571) f = f (.iload_n 3, 572, 3, 0, 0, 0, 0)) ∧
  (∀ f : mE → Prop, w_o (mft ML_law 572) f = f (.iconst 3, 573, 0, 0, 0, (3), 0)) ∧
  (∀ f : mE → Prop, w_o (mft ML_law 573) f = f (.iadd, 574, 0, 0, 0, 0, 0)) ∧
  (∀ f : mE → Prop, w_o (mft ML_law 574) f = f (.iaload, 575, 0, 0, 0, 0, 0)) ∧
  (∀ f : mE → Prop, w_o (mft ML_law 575) f = f (.invokevirtual 72, 578, 145, 3, 7, 0, 0)) ∧
  (∀ f : mE → Prop, w_o (mft ML_law 578) f = f (.if_icmp .eq 428, 581, 1006, 0, 0, 0, 0)) ∧
  (∀ f : mE → Prop, w_o (mft ML_law 581) f = f (.iconst 0, 582, 0, 0, 0, (0), 0)) ∧
  (∀ f : mE → Prop, w_o (mft ML_law 582) f = f (.ireturn, 583, 0, 0, 1, 0, 0)) ∧
  (∀ f : mE → Prop, w_o (mft ML_law 583) f = f (.aload_n 1, 584, 1, 0, 0, 0, 0)) ∧
  (∀ f : mE → Prop, w_o (mft ML_law 584) f = f (.aload_n 0, 585, 0, 0, 0, 0, 0)) ∧
  (∀ f : mE → Prop, w_o (mft ML_law 585) f = f (.iload_n 3, 586, 3, 0, 0, 0, 0)) ∧
  (∀ f : mE → Prop, w_o (mft ML_law 586) f = f (.iconst 1, 587, 0, 0, 0, (1), 0)) ∧
  (∀ f : mE → Prop, w_o (mft ML_law 587) f = f (.iadd, 588, 0, 0, 0, 0, 0)) ∧
  (∀ f : mE → Prop, w_o (mft ML_law 588) f = f (.iaload, 589, 0, 0, 0, 0, 0)) ∧
  (∀ f : mE → Prop, w_o (mft ML_law 589) f = f (.aload_n 0, 590, 0, 0, 0, 0, 0)) ∧
  (∀ f : mE → Prop, w_o (mft ML_law 590) f = f (.iload_n 3, 591, 3, 0, 0, 0, 0)) ∧
  (∀ f : mE → Prop, w_o (mft ML_law 591) f = f (.iconst 2, 592, 0, 0, 0, (2), 0)) ∧
  (∀ f : mE → Prop, w_o (mft ML_law 592) f = f (.iadd, 593, 0, 0, 0, 0, 0)) ∧
  (∀ f : mE → Prop, w_o (mft ML_law 593) f = f (.iaload, 594, 0, 0, 0, 0, 0)) ∧
  (∀ f : mE → Prop, w_o (mft ML_law 594) f = f (.aload_n 0, 595, 0, 0, 0, 0, 0)) ∧
  (∀ f : mE → Prop, w_o (mft ML_law 595) f = f (.iload_n 3, 596, 3, 0, 0, 0, 0)) ∧
  (∀ f : mE → Prop, w_o (mft ML_law 596) f = f (.iconst 3, 597, 0, 0, 0, (3), 0)) ∧
  (∀ f : mE → Prop, w_o (mft ML_law 597) f = f (.iadd, 598, 0, 0, 0, 0, 0)) ∧
  (∀ f : mE → Prop, w_o (mft ML_law 598) f = f (.iaload, 599, 0, 0, 0, 0, 0)) ∧
  (∀ f : mE → Prop, w_o (mft ML_law 599) f = f (.invokevirtual 73, 602, 90, 3, 6, 0, 0)) ∧
  (∀ f : mE → Prop, w_o (mft ML_law 602) f = f (.aload_n 2, 603, 2, 0, 0, 0, 0)) ∧
  (∀ f : mE → Prop, w_o (mft ML_law 603) f = f (.aload_n 0, 604, 0, 0, 0, 0, 0)) ∧
  (∀ f : mE → Prop, w_o (mft ML_law 604) f = f (.iload_n 3, 605, 3, 0, 0, 0, 0)) ∧
  (∀ f : mE → Prop, w_o (mft ML_law 605) f = f (.iconst 1, 606, 0, 0, 0, (1), 0)) ∧
  (∀ f : mE → Prop, w_o (mft ML_law 606) f = f (.iadd, 607, 0, 0, 0, 0, 0)) ∧
  (∀ f : mE → Prop, w_o (mft ML_law 607) f = f (.iaload, 608, 0, 0, 0, 0, 0)) := ⟨fun _ => rfl, fun _ => rfl, fun _ => rfl, fun _ => rfl, fun _ => rfl, fun _ => rfl, fun _ => rfl, fun _ => rfl, fun _ => rfl, fun _ => rfl, fun _ => rfl, fun _ => rfl, fun _ => rfl, fun _ => rfl, fun _ => rfl, fun _ => rfl, fun _ => rfl, fun _ => rfl, fun _ => rfl, fun _ => rfl, fun _ => rfl, fun _ => rfl, fun _ => rfl, fun _ => rfl, fun _ => rfl, fun _ => rfl, fun _ => rfl, fun _ => rfl, fun _ => rfl, fun _ => rfl, fun _ => rfl, fun _ => rfl, fun _ => rfl, fun _ => rfl, fun _ => rfl, fun _ => rfl, fun _ => rfl, fun _ => rfl, fun _ => rfl, fun _ => rfl⟩
set_option maxRecDepth 100000 in
set_option maxHeartbeats 4000000 in
theorem ft_L_law_10 : (∀ f : mE → Prop, w_o (mft ML_law 608) f = f (.aload_n 0, 609, 0, 0, 0, 0, 0)) ∧
  (∀ f : mE → Prop, w_o (mft ML_law 609) f = f (.iload_n 3, 610, 3, 0, 0, 0, 0)) ∧
  (∀ f : mE → Prop, w_o (mft ML_law 610) f = f (.iconst 2, 611, 0, 0, 0, (2), 0)) ∧
  (∀ f : mE → Prop, w_o (mft ML_law 611) f = f (.iadd, 612, 0, 0, 0, 0, 0)) ∧
  (∀ f : mE → Prop, w_o (mft ML_law 612) f = f (.iaload, 613, 0, 0, 0, 0, 0)) ∧
  (∀ f : mE → Prop, w_o (mft ML_law 613) f = f (.aload_n 0, 614, 0, 0, 0, 0, 0)) ∧
  (∀ f : mE → Prop, w_o (mft ML_law 614) f = f (.iload_n 3, 615, 3, 0, 0, 0, 0)) ∧
  (∀ f : mE → Prop, w_o (mft ML_law 615) f = f (.iconst 3, 616, 0, 0, 0, (3), 0)) ∧
  (∀ f : mE → Prop, w_o (mft ML_law 616) f = f (.iadd, 617, 0, 0, 0, 0, 0)) ∧
  (∀ f : mE → Prop, w_o (mft ML_law 617) f = f (.iaload, 618, 0, 0, 0, 0, 0)) ∧
  (∀ f : mE → Prop, w_o (mft ML_law 618) f = f (.invokevirtual 76, 621, 146, 3, 7, 0, 0)) ∧
  (∀ f : mE → Prop, w_o (mft ML_law 621) f = f (.if_icmp .eq 385, 624, 1006, 0, 0, 0, 0)) ∧
  (∀ f : mE → Prop, w_o (mft ML_law 624) f = f (.iconst 0, 625, 0, 0, 0, (0), 0)) ∧
  (∀ f : mE → Prop, w_o (mft ML_law 625) f = f (.ireturn, 626, 0, 0, 1, 0, 0)) ∧
  (∀ f : mE → Prop, w_o (mft ML_law 626) f = f (.aload_n 1, 627, 1, 0, 0, 0, 0)) ∧
  (∀ f : mE → Prop, w_o (mft ML_law 627) f = f (.aload_n 0, 628, 0, 0, 0, 0, 0)) ∧
  (∀ f : mE → Prop, w_o (mft ML_law 628) f = f (.iload_n 3, 629, 3, 0, 0, 0, 0)) ∧
  (∀ f : mE → Prop, w_o (mft ML_law 629) f = f (.iconst 1, 630, 0, 0, 0, (1), 0)) ∧
  (∀ f : mE → Prop, w_o (mft ML_law 630) f = f (.iadd, 631, 0, 0, 0, 0, 0)) ∧
  (∀ f : mE → Prop, w_o (mft ML_law 631) f = f (.iaload, 632, 0, 0, 0, 0, 0)) ∧
  (∀ f : mE → Prop, w_o (mft ML_law 632) f = f (.aload_n 0, 633, 0, 0, 0, 0, 0)) ∧
  (∀ f : mE → Prop, w_o (mft ML_law 633) f = f (.iload_n 3, 634, 3, 0, 0, 0, 0)) ∧
  (∀ f : mE → Prop, w_o (mft ML_law 634) f = f (.iconst 2, 635, 0, 0, 0, (2), 0)) ∧
  (∀ f : mE → Prop, w_o (mft ML_law 635) f = f (.iadd, 636, 0, 0, 0, 0, 0)) ∧
  (∀ f : mE → Prop, w_o (mft ML_law 636) f = f (.iaload, 637, 0, 0, 0, 0, 0)) ∧
  (∀ f : mE → Prop, w_o (mft ML_law 637) f = f (.invokevirtual 77, 640, 91, 2, 6, 0, 0)) ∧
  (∀ f : mE → Prop, w_o (mft ML_law 640) f = f (.aload_n 2, 641, 2, 0, 0, 0, 0)) ∧
  (∀ f : mE → Prop, w_o (mft ML_law 641) f = f (.aload_n 0, 642, 0, 0, 0, 0, 0)) ∧
  (∀ f : mE → Prop, w_o (mft ML_law 642) f = f (.iload_n 3, 643, 3, 0, 0, 0, 0)) ∧
  (∀ f : mE → Prop, w_o (mft ML_law 643) f = f (.iconst 1, 644, 0, 0, 0, (1), 0)) ∧
  (∀ f : mE → Prop, w_o (mft ML_law 644) f = f (.iadd, 645, 0, 0, 0, 0, 0)) ∧
  (∀ f : mE → Prop, w_o (mft ML_law 645) f = f (.iaload, 646, 0, 0, 0, 0, 0)) ∧
  (∀ f : mE → Prop, w_o (mft ML_law 646) f = f (.aload_n 0, 647, 0, 0, 0, 0, 0)) ∧
  (∀ f : mE → Prop, w_o (mft ML_law 647) f = f (.iload_n 3, 648, 3, 0, 0, 0, 0)) ∧
  (∀ f : mE → Prop, w_o (mft ML_law 648) f = f (.iconst 2, 649, 0, 0, 0, (2), 0)) ∧
  (∀ f : mE → Prop, w_o (mft ML_law 649) f = f (.iadd, 650, 0, 0, 0, 0, 0)) ∧
  (∀ f : mE → Prop, w_o (mft ML_law 650) f = f (.iaload, 651, 0, 0, 0, 0, 0)) ∧
  (∀ f : mE → Prop, w_o (mft ML_law 651) f = f (.invokevirtual 80, 654, 148, 2, 7, 0, 0)) ∧
  (∀ f : mE → Prop, w_o (mft ML_law 654) f = f (.if_icmp .eq 352, 657, 1006, 0, 0, 0, 0)) ∧
  (∀ f : mE → Prop, w_o (mft ML_law 657) f = f (.iconst 0, 658, 0, 0, 0, (0), 0)) := ⟨fun _ => rfl, fun _ => rfl, fun _ => rfl, fun _ => rfl, fun _ => rfl, fun _ => rfl, fun _ => rfl, fun _ => rfl, fun _ => rfl, fun _ => rfl, fun _ => rfl, fun _ => rfl, fun _ => rfl, fun _ => rfl, fun _ => rfl, fun _ => rfl, fun _ => rfl, fun _ => rfl, fun _ => rfl, fun _ => rfl, fun _ => rfl, fun _ => rfl, fun _ => rfl, fun _ => rfl, fun _ => rfl, fun _ => rfl, fun _ => rfl, fun _ => rfl, fun _ => rfl, fun _ => rfl, fun _ => rfl, fun _ => rfl, fun _ => rfl, fun _ => rfl, fun _ => rfl, fun _ => rfl, fun _ => rfl, fun _ => rfl, fun _ => rfl, fun _ => rfl⟩
set_option maxRecDepth 100000 in
set_option maxHeartbeats 4000000 in
theorem ft_L_law_11 : (∀ f : mE → Prop, w_o (mft ML_law 658) f = f (.ireturn, 659, 0, 0, 1, 0, 0)) ∧
  (∀ f : mE → Prop, w_o (mft ML_law 659) f = f (.aload_n 1, 660, 1, 0, 0, 0, 0)) ∧
  (∀ f : mE → Prop, w_o (mft ML_law 660) f = f (.aload_n 0, 661, 0, 0, 0, 0, 0)) ∧
  (∀ f : mE → Prop, w_o (mft ML_law 661) f = f (.iload_n 3, 662, 3, 0, 0, 0, 0)) ∧
  (∀ f : mE → Prop, w_o (mft ML_law 662) f = f (.iconst 1, 663, 0, 0, 0, (1), 0)) ∧
  (∀ f : mE → Prop, w_o (mft ML_law 663) f = f (.iadd, 664, 0, 0, 0, 0, 0)) ∧
  (∀ f : mE → Prop, w_o (mft ML_law 664) f = f (.iaload, 665, 0, 0, 0, 0, 0)) ∧
  (∀ f : mE → Prop, w_o (mft ML_law 665) f = f (.aload_n 0, 666, 0, 0, 0, 0, 0)) ∧
  (∀ f : mE → Prop, w_o (mft ML_law 666) f = f (.iload_n 3, 667, 3, 0, 0, 0, 0)) ∧
  (∀ f : mE → Prop, w_o (mft ML_law 667) f = f (.iconst 2, 668, 0, 0, 0, (2), 0)) ∧
  (∀ f : mE → Prop, w_o (mft ML_law 668) f = f (.iadd, 669, 0, 0, 0, 0, 0)) ∧
  (∀ f : mE → Prop, w_o (mft ML_law 669) f = f (.iaload, 670, 0, 0, 0, 0, 0)) ∧
  (∀ f : mE → Prop, w_o (mft ML_law 670) f = f (.invokevirtual 81, 673, 92, 2, 6, 0, 0)) ∧
  (∀ f : mE → Prop, w_o (mft ML_law 673) f = f (.aload_n 2, 674, 2, 0, 0, 0, 0)) ∧
  (∀ f : mE → Prop, w_o (mft ML_law 674) f = f (.aload_n 0, 675, 0, 0, 0, 0, 0)) ∧
  (∀ f : mE → Prop, w_o (mft ML_law 675) f = f (.iload_n 3, 676, 3, 0, 0, 0, 0)) ∧
  (∀ f : mE → Prop, w_o (mft ML_law 676) f = f (.iconst 1, 677, 0, 0, 0, (1), 0)) ∧
  (∀ f : mE → Prop, w_o (mft ML_law 677) f = f (.iadd, 678, 0, 0, 0, 0, 0)) ∧
  (∀ f : mE → Prop, w_o (mft ML_law 678) f = f (.iaload, 679, 0, 0, 0, 0, 0)) ∧
  (∀ f : mE → Prop, w_o (mft ML_law 679) f = f (.aload_n 0, 680, 0, 0, 0, 0, 0)) ∧
  (∀ f : mE → Prop, w_o (mft ML_law 680) f = f (.iload_n 3, 681, 3, 0, 0, 0, 0)) ∧
  (∀ f : mE → Prop, w_o (mft ML_law 681) f = f (.iconst 2, 682, 0, 0, 0, (2), 0)) ∧
  (∀ f : mE → Prop, w_o (mft ML_law 682) f = f (.iadd, 683, 0, 0, 0, 0, 0)) ∧
  (∀ f : mE → Prop, w_o (mft ML_law 683) f = f (.iaload, 684, 0, 0, 0, 0, 0)) ∧
  (∀ f : mE → Prop, w_o (mft ML_law 684) f = f (.invokevirtual 84, 687, 150, 2, 7, 0, 0)) ∧
  (∀ f : mE → Prop, w_o (mft ML_law 687) f = f (.if_icmp .eq 319, 690, 1006, 0, 0, 0, 0)) ∧
  (∀ f : mE → Prop, w_o (mft ML_law 690) f = f (.iconst 0, 691, 0, 0, 0, (0), 0)) ∧
  (∀ f : mE → Prop, w_o (mft ML_law 691) f = f (.ireturn, 692, 0, 0, 1, 0, 0)) ∧
  (∀ f : mE → Prop, w_o (mft ML_law 692) f = f (.aload_n 1, 693, 1, 0, 0, 0, 0)) ∧
  (∀ f : mE → Prop, w_o (mft ML_law 693) f = f (.aload_n 0, 694, 0, 0, 0, 0, 0)) ∧
  (∀ f : mE → Prop, w_o (mft ML_law 694) f = f (.iload_n 3, 695, 3, 0, 0, 0, 0)) ∧
  (∀ f : mE → Prop, w_o (mft ML_law 695) f = f (.iconst 1, 696, 0, 0, 0, (1), 0)) ∧
  (∀ f : mE → Prop, w_o (mft ML_law 696) f = f (.iadd, 697, 0, 0, 0, 0, 0)) ∧
  (∀ f : mE → Prop, w_o (mft ML_law 697) f = f (.iaload, 698, 0, 0, 0, 0, 0)) ∧
  (∀ f : mE → Prop, w_o (mft ML_law 698) f = f (.aload_n 0, 699, 0, 0, 0, 0, 0)) ∧
  (∀ f : mE → Prop, w_o (mft ML_law 699) f = f (.iload_n 3, 700, 3, 0, 0, 0, 0)) ∧
  (∀ f : mE → Prop, w_o (mft ML_law 700) f = f (.iconst 2, 701, 0, 0, 0, (2), 0)) ∧
  (∀ f : mE → Prop, w_o (mft ML_law 701) f = f (.iadd, 702, 0, 0, 0, 0, 0)) ∧
  (∀ f : mE → Prop, w_o (mft ML_law 702) f = f (.iaload, 703, 0, 0, 0, 0, 0)) ∧
  (∀ f : mE → Prop, w_o (mft ML_law 703) f = f (.aload_n 0, 704, 0, 0, 0, 0, 0)) := ⟨fun _ => rfl, fun _ => rfl, fun _ => rfl, fun _ => rfl, fun _ => rfl, fun _ => rfl, fun _ => rfl, fun _ => rfl, fun _ => rfl, fun _ => rfl, fun _ => rfl, fun _ => rfl, fun _ => rfl, fun _ => rfl, fun _ => rfl, fun _ => rfl, fun _ => rfl, fun _ => rfl, fun _ => rfl, fun _ => rfl, fun _ => rfl, fun _ => rfl, fun _ => rfl, fun _ => rfl, fun _ => rfl, fun _ => rfl, fun _ => rfl, fun _ => rfl, fun _ => rfl, fun _ => rfl, fun _ => rfl, fun _ => rfl, fun _ => rfl, fun _ => rfl, fun _ => rfl, fun _ => rfl, fun _ => rfl, fun _ => rfl, fun _ => rfl, fun _ => rfl⟩
set_option maxRecDepth 100000 in
set_option maxHeartbeats 4000000 in
theorem ft_L_law_12 : (∀ f : mE → Prop, w_o (mft ML_law 704) f = f (.iload_n 3, 705, 3, 0, 0, 0, 0)) ∧
  (∀ f : mE → Prop, w_o (mft ML_law 705) f = f (.iconst 3, 706, 0, 0, 0, (3), 0)) ∧
  (∀ f : mE → Prop, w_o (mft ML_law 706) f = f (.iadd, 707, 0, 0, 0, 0, 0)) ∧
  (∀ f : mE → Prop, w_o (mft ML_law 707) f = f (.iaload, 708, 0, 0, 0, 0, 0)) ∧
  (∀ f : mE → Prop, w_o (mft ML_law 708) f = f (.invokevirtual 85, 711, 93, 3, 6, 0, 0)) ∧
  (∀ f : mE → Prop, w_o (mft ML_law 711) f = f (.aload_n 2, 712, 2, 0, 0, 0, 0)) ∧
  (∀ f : mE → Prop, w_o (mft ML_law 712) f = f (.aload_n 0, 713, 0, 0, 0, 0, 0)) ∧
  (∀ f : mE → Prop, w_o (mft ML_law 713) f = f (.iload_n 3, 714, 3, 0, 0, 0, 0)) ∧
  (∀ f : mE → Prop, w_o (mft ML_law 714) f = f (.iconst 1, 715, 0, 0, 0, (1), 0)) ∧
  (∀ f : mE → Prop, w_o (mft ML_law 715) f = f (.iadd, 716, 0, 0, 0, 0, 0)) ∧
  (∀ f : mE → Prop, w_o (mft ML_law 716) f = f (.iaload, 717, 0, 0, 0, 0, 0)) ∧
  (∀ f : mE → Prop, w_o (mft ML_law 717) f = f (.aload_n 0, 718, 0, 0, 0, 0, 0)) ∧
  (∀ f : mE → Prop, w_o (mft ML_law 718) f = f (.iload_n 3, 719, 3, 0, 0, 0, 0)) ∧
  (∀ f : mE → Prop, w_o (mft ML_law 719) f = f (.iconst 2, 720, 0, 0, 0, (2), 0)) ∧
  (∀ f : mE → Prop, w_o (mft ML_law 720) f = f (.iadd, 721, 0, 0, 0, 0, 0)) ∧
  (∀ f : mE → Prop, w_o (mft ML_law 721) f = f (.iaload, 722, 0, 0, 0, 0, 0)) ∧
  (∀ f : mE → Prop, w_o (mft ML_law 722) f = f (.aload_n 0, 723, 0, 0, 0, 0, 0)) ∧
  (∀ f : mE → Prop, w_o (mft ML_law 723) f = f (.iload_n 3, 724, 3, 0, 0, 0, 0)) ∧
  (∀ f : mE → Prop, w_o (mft ML_law 724) f = f (.iconst 3, 725, 0, 0, 0, (3), 0)) ∧
  (∀ f : mE → Prop, w_o (mft ML_law 725) f = f (.iadd, 726, 0, 0, 0, 0, 0)) ∧
  (∀ f : mE → Prop, w_o (mft ML_law 726) f = f (.iaload, 727, 0, 0, 0, 0, 0)) ∧
  (∀ f : mE → Prop, w_o (mft ML_law 727) f = f (.invokevirtual 88, 730, 157, 3, 7, 0, 0)) ∧
  (∀ f : mE → Prop, w_o (mft ML_law 730) f = f (.if_icmp .eq 276, 733, 1006, 0, 0, 0, 0)) ∧
  (∀ f : mE → Prop, w_o (mft ML_law 733) f = f (.iconst 0, 734, 0, 0, 0, (0), 0)) ∧
  (∀ f : mE → Prop, w_o (mft ML_law 734) f = f (.ireturn, 735, 0, 0, 1, 0, 0)) ∧
  (∀ f : mE → Prop, w_o (mft ML_law 735) f = f (.aload_n 1, 736, 1, 0, 0, 0, 0)) ∧
  (∀ f : mE → Prop, w_o (mft ML_law 736) f = f (.aload_n 0, 737, 0, 0, 0, 0, 0)) ∧
  (∀ f : mE → Prop, w_o (mft ML_law 737) f = f (.iload_n 3, 738, 3, 0, 0, 0, 0)) ∧
  (∀ f : mE → Prop, w_o (mft ML_law 738) f = f (.iconst 1, 739, 0, 0, 0, (1), 0)) ∧
  (∀ f : mE → Prop, w_o (mft ML_law 739) f = f (.iadd, 740, 0, 0, 0, 0, 0)) ∧
  (∀ f : mE → Prop, w_o (mft ML_law 740) f = f (.iaload, 741, 0, 0, 0, 0, 0)) ∧
  (∀ f : mE → Prop, w_o (mft ML_law 741) f = f (.aload_n 0, 742, 0, 0, 0, 0, 0)) ∧
  (∀ f : mE → Prop, w_o (mft ML_law 742) f = f (.iload_n 3, 743, 3, 0, 0, 0, 0)) ∧
  (∀ f : mE → Prop, w_o (mft ML_law 743) f = f (.iconst 2, 744, 0, 0, 0, (2), 0)) ∧
  (∀ f : mE → Prop, w_o (mft ML_law 744) f = f (.iadd, 745, 0, 0, 0, 0, 0)) ∧
  (∀ f : mE → Prop, w_o (mft ML_law 745) f = f (.iaload, 746, 0, 0, 0, 0, 0)) ∧
  (∀ f : mE → Prop, w_o (mft ML_law 746) f = f (.aload_n 0, 747, 0, 0, 0, 0, 0)) ∧
  (∀ f : mE → Prop, w_o (mft ML_law 747) f = f (.iload_n 3, 748, 3, 0, 0, 0, 0)) ∧
  (∀ f : mE → Prop, w_o (mft ML_law 748) f = f (.iconst 3, 749, 0, 0, 0, (3), 0)) ∧
  (∀ f : mE → Prop, w_o (mft ML_law 749) f = f (.iadd, 750, 0, 0, 0, 0, 0)) := ⟨fun _ => rfl, fun _ => rfl, fun _ => rfl, fun _ => rfl, fun _ => rfl, fun _ => rfl, fun _ => rfl, fun _ => rfl, fun _ => rfl, fun _ => rfl, fun _ => rfl, fun _ => rfl, fun _ => rfl, fun _ => rfl, fun _ => rfl, fun _ => rfl, fun _ => rfl, fun _ => rfl, fun _ => rfl, fun _ => rfl, fun _ => rfl, fun _ => rfl, fun _ => rfl, fun _ => rfl, fun _ => rfl, fun _ => rfl, fun _ => rfl, fun _ => rfl, fun _ => rfl, fun _ => rfl, fun _ => rfl, fun _ => rfl, fun _ => rfl, fun _ => rfl, fun _ => rfl, fun _ => rfl, fun _ => rfl, fun _ => rfl, fun _ => rfl, fun _ => rfl⟩
set_option maxRecDepth 100000 in
set_option maxHeartbeats 4000000 in
theorem ft_L_law_13 : (∀ f : mE → Prop, w_o (mft ML_law 750) f = f (.iaload, 751, 0, 0, 0, 0, 0)) ∧
  (∀ f : mE → Prop, w_o (mft ML_law 751) f = f (.invokevirtual 89, 754, 94, 3, 6, 0, 0)) ∧
  (∀ f : mE → Prop, w_o (mft ML_law 754) f = f (.aload_n 2, 755, 2, 0, 0, 0, 0)) ∧
  (∀ f : mE → Prop, w_o (mft ML_law 755) f = f (.aload_n 0, 756, 0, 0, 0, 0, 0)) ∧
  (∀ f : mE → Prop, w_o (mft ML_law 756) f = f (.iload_n 3, 757, 3, 0, 0, 0, 0)) ∧
  (∀ f : mE → Prop, w_o (mft ML_law 757) f = f (.iconst 1, 758, 0, 0, 0, (1), 0)) ∧
  (∀ f : mE → Prop, w_o (mft ML_law 758) f = f (.iadd, 759, 0, 0, 0, 0, 0)) ∧
  (∀ f : mE → Prop, w_o (mft ML_law 759) f = f (.iaload, 760, 0, 0, 0, 0, 0)) ∧
  (∀ f : mE → Prop, w_o (mft ML_law 760) f = f (.aload_n 0, 761, 0, 0, 0, 0, 0)) ∧
  (∀ f : mE → Prop, w_o (mft ML_law 761) f = f (.iload_n 3, 762, 3, 0, 0, 0, 0)) ∧
  (∀ f : mE → Prop, w_o (mft ML_law 762) f = f (.iconst 2, 763, 0, 0, 0, (2), 0)) ∧
  (∀ f : mE → Prop, w_o (mft ML_law 763) f = f (.iadd, 764, 0, 0, 0, 0, 0)) ∧
  (∀ f : mE → Prop, w_o (mft ML_law 764) f = f (.iaload, 765, 0, 0, 0, 0, 0)) ∧
  (∀ f : mE → Prop, w_o (mft ML_law 765) f = f (.aload_n 0, 766, 0, 0, 0, 0, 0)) ∧
  (∀ f : mE → Prop, w_o (mft ML_law 766) f = f (.iload_n 3, 767, 3, 0, 0, 0, 0)) ∧
  (∀ f : mE → Prop, w_o (mft ML_law 767) f = f (.iconst 3, 768, 0, 0, 0, (3), 0)) ∧
  (∀ f : mE → Prop, w_o (mft ML_law 768) f = f (.iadd, 769, 0, 0, 0, 0, 0)) ∧
  (∀ f : mE → Prop, w_o (mft ML_law 769) f = f (.iaload, 770, 0, 0, 0, 0, 0)) ∧
  (∀ f : mE → Prop, w_o (mft ML_law 770) f = f (.invokevirtual 92, 773, 158, 3, 7, 0, 0)) ∧
  (∀ f : mE → Prop, w_o (mft ML_law 773) f = f (.if_icmp .eq 233, 776, 1006, 0, 0, 0, 0)) ∧
  (∀ f : mE → Prop, w_o (mft ML_law 776) f = f (.iconst 0, 777, 0, 0, 0, (0), 0)) ∧
  (∀ f : mE → Prop, w_o (mft ML_law 777) f = f (.ireturn, 778, 0, 0, 1, 0, 0)) ∧
  (∀ f : mE → Prop, w_o (mft ML_law 778) f = f (.aload_n 1, 779, 1, 0, 0, 0, 0)) ∧
  (∀ f : mE → Prop, w_o (mft ML_law 779) f = f (.aload_n 0, 780, 0, 0, 0, 0, 0)) ∧
  (∀ f : mE → Prop, w_o (mft ML_law 780) f = f (.iload_n 3, 781, 3, 0, 0, 0, 0)) ∧
  (∀ f : mE → Prop, w_o (mft ML_law 781) f = f (.iconst 1, 782, 0, 0, 0, (1), 0)) ∧
  (∀ f : mE → Prop, w_o (mft ML_law 782) f = f (.iadd, 783, 0, 0, 0, 0, 0)) ∧
  (∀ f : mE → Prop, w_o (mft ML_law 783) f = f (.iaload, 784, 0, 0, 0, 0, 0)) ∧
  (∀ f : mE → Prop, w_o (mft ML_law 784) f = f (.aload_n 0, 785, 0, 0, 0, 0, 0)) ∧
  (∀ f : mE → Prop, w_o (mft ML_law 785) f = f (.iload_n 3, 786, 3, 0, 0, 0, 0)) ∧
  (∀ f : mE → Prop, w_o (mft ML_law 786) f = f (.iconst 2, 787, 0, 0, 0, (2), 0)) ∧
  (∀ f : mE → Prop, w_o (mft ML_law 787) f = f (.iadd, 788, 0, 0, 0, 0, 0)) ∧
  (∀ f : mE → Prop, w_o (mft ML_law 788) f = f (.iaload, 789, 0, 0, 0, 0, 0)) ∧
  (∀ f : mE → Prop, w_o (mft ML_law 789) f = f (.aload_n 0, 790, 0, 0, 0, 0, 0)) ∧
  (∀ f : mE → Prop, w_o (mft ML_law 790) f = f (.iload_n 3, 791, 3, 0, 0, 0, 0)) ∧
  (∀ f : mE → Prop, w_o (mft ML_law 791) f = f (.iconst 3, 792, 0, 0, 0, (3), 0)) ∧
  (∀ f : mE → Prop, w_o (mft ML_law 792) f = f (.iadd, 793, 0, 0, 0, 0, 0)) ∧
  (∀ f : mE → Prop, w_o (mft ML_law 793) f = f (.iaload, 794, 0, 0, 0, 0, 0)) ∧
  (∀ f : mE → Prop, w_o (mft ML_law 794) f = f (.invokevirtual 93, 797, 95, 3, 6, 0, 0)) ∧
  (∀ f : mE → Prop, w_o (mft ML_law 797) f = f (.aload_n 2, 798, 2, 0, 0, 0, 0)) := ⟨fun _ => rfl, fun _ => rfl, fun _ => rfl, fun _ => rfl, fun _ => rfl, fun _ => rfl, fun _ => rfl, fun _ => rfl, fun _ => rfl, fun _ => rfl, fun _ => rfl, fun _ => rfl, fun _ => rfl, fun _ => rfl, fun _ => rfl, fun _ => rfl, fun _ => rfl, fun _ => rfl, fun _ => rfl, fun _ => rfl, fun _ => rfl, fun _ => rfl, fun _ => rfl, fun _ => rfl, fun _ => rfl, fun _ => rfl, fun _ => rfl, fun _ => rfl, fun _ => rfl, fun _ => rfl, fun _ => rfl, fun _ => rfl, fun _ => rfl, fun _ => rfl, fun _ => rfl, fun _ => rfl, fun _ => rfl, fun _ => rfl, fun _ => rfl, fun _ => rfl⟩
set_option maxRecDepth 100000 in
set_option maxHeartbeats 4000000 in
theorem ft_L_law_14 : (∀ f : mE → Prop, w_o (mft ML_law 798) f = f (.aload_n 0, 799, 0, 0, 0, 0, 0)) ∧
  (∀ f : mE → Prop, w_o (mft ML_law 799) f = f (.iload_n 3, 800, 3, 0, 0, 0, 0)) ∧
  (∀ f : mE → Prop, w_o (mft ML_law 800) f = f (.iconst 1, 801, 0, 0, 0, (1), 0)) ∧
  (∀ f : mE → Prop, w_o (mft ML_law 801) f = f (.iadd, 802, 0, 0, 0, 0, 0)) ∧
  (∀ f : mE → Prop, w_o (mft ML_law 802) f = f (.iaload, 803, 0, 0, 0, 0, 0)) ∧
  (∀ f : mE → Prop, w_o (mft ML_law 803) f = f (.aload_n 0, 804, 0, 0, 0, 0, 0)) ∧
  (∀ f : mE → Prop, w_o (mft ML_law 804) f = f (.iload_n 3, 805, 3, 0, 0, 0, 0)) ∧
  (∀ f : mE → Prop, w_o (mft ML_law 805) f = f (.iconst 2, 806, 0, 0, 0, (2), 0)) ∧
  (∀ f : mE → Prop, w_o (mft ML_law 806) f = f (.iadd, 807, 0, 0, 0, 0, 0)) ∧
  (∀ f : mE → Prop, w_o (mft ML_law 807) f = f (.iaload, 808, 0, 0, 0, 0, 0)) ∧
  (∀ f : mE → Prop, w_o (mft ML_law 808) f = f (.aload_n 0, 809, 0, 0, 0, 0, 0)) ∧
  (∀ f : mE → Prop, w_o (mft ML_law 809) f = f (.iload_n 3, 810, 3, 0, 0, 0, 0)) ∧
  (∀ f : mE → Prop, w_o (mft ML_law 810) f = f (.iconst 3, 811, 0, 0, 0, (3), 0)) ∧
  (∀ f : mE → Prop, w_o (mft ML_law 811) f = f (.iadd, 812, 0, 0, 0, 0, 0)) ∧
  (∀ f : mE → Prop, w_o (mft ML_law 812) f = f (.iaload, 813, 0, 0, 0, 0, 0)) ∧
  (∀ f : mE → Prop, w_o (mft ML_law 813) f = f (.invokevirtual 96, 816, 168, 3, 7, 0, 0)) ∧
  (∀ f : mE → Prop, w_o (mft ML_law 816) f = f (.if_icmp .eq 190, 819, 1006, 0, 0, 0, 0)) ∧
  (∀ f : mE → Prop, w_o (mft ML_law 819) f = f (.iconst 0, 820, 0, 0, 0, (0), 0)) ∧
  (∀ f : mE → Prop, w_o (mft ML_law 820) f = f (.ireturn, 821, 0, 0, 1, 0, 0)) ∧
  (∀ f : mE → Prop, w_o (mft ML_law 821) f = f (.aload_n 1, 822, 1, 0, 0, 0, 0)) ∧
  (∀ f : mE → Prop, w_o (mft ML_law 822) f = f (.aload_n 0, 823, 0, 0, 0, 0, 0)) ∧
  (∀ f : mE → Prop, w_o (mft ML_law 823) f = f (.iload_n 3, 824, 3, 0, 0, 0, 0)) ∧
  (∀ f : mE → Prop, w_o (mft ML_law 824) f = f (.iconst 1, 825, 0, 0, 0, (1), 0)) ∧
  (∀ f : mE → Prop, w_o (mft ML_law 825) f = f (.iadd, 826, 0, 0, 0, 0, 0)) ∧
  (∀ f : mE → Prop, w_o (mft ML_law 826) f = f (.iaload, 827, 0, 0, 0, 0, 0)) ∧
  (∀ f : mE → Prop, w_o (mft ML_law 827) f = f (.aload_n 0, 828, 0, 0, 0, 0, 0)) ∧
  (∀ f : mE → Prop, w_o (mft ML_law 828) f = f (.iload_n 3, 829, 3, 0, 0, 0, 0)) ∧
  (∀ f : mE → Prop, w_o (mft ML_law 829) f = f (.iconst 2, 830, 0, 0, 0, (2), 0)) ∧
  (∀ f : mE → Prop, w_o (mft ML_law 830) f = f (.iadd, 831, 0, 0, 0, 0, 0)) ∧
  (∀ f : mE → Prop, w_o (mft ML_law 831) f = f (.iaload, 832, 0, 0, 0, 0, 0)) ∧
  (∀ f : mE → Prop, w_o (mft ML_law 832) f = f (.aload_n 0, 833, 0, 0, 0, 0, 0)) ∧
  (∀ f : mE → Prop, w_o (mft ML_law 833) f = f (.iload_n 3, 834, 3, 0, 0, 0, 0)) ∧
  (∀ f : mE → Prop, w_o (mft ML_law 834) f = f (.iconst 3, 835, 0, 0, 0, (3), 0)) ∧
  (∀ f : mE → Prop, w_o (mft ML_law 835) f = f (.iadd, 836, 0, 0, 0, 0, 0)) ∧
  (∀ f : mE → Prop, w_o (mft ML_law 836) f = f (.iaload, 837, 0, 0, 0, 0, 0)) ∧
  (∀ f : mE → Prop, w_o (mft ML_law 837) f = f (.aload_n 0, 838, 0, 0, 0, 0, 0)) ∧
  (∀ f : mE → Prop, w_o (mft ML_law 838) f = f (.iload_n 3, 839, 3, 0, 0, 0, 0)) ∧
  (∀ f : mE → Prop, w_o (mft ML_law 839) f = f (.iconst 4, 840, 0, 0, 0, (4), 0)) ∧
  (∀ f : mE → Prop, w_o (mft ML_law 840) f = f (.iadd, 841, 0, 0, 0, 0, 0)) ∧
  (∀ f : mE → Prop, w_o (mft ML_law 841) f = f (.iaload, 842, 0, 0, 0, 0, 0)) := ⟨fun _ => rfl, fun _ => rfl, fun _ => rfl, fun _ => rfl, fun _ => rfl, fun _ => rfl, fun _ => rfl, fun _ => rfl, fun _ => rfl, fun _ => rfl, fun _ => rfl, fun _ => rfl, fun _ => rfl, fun _ => rfl, fun _ => rfl, fun _ => rfl, fun _ => rfl, fun _ => rfl, fun _ => rfl, fun _ => rfl, fun _ => rfl, fun _ => rfl, fun _ => rfl, fun _ => rfl, fun _ => rfl, fun _ => rfl, fun _ => rfl, fun _ => rfl, fun _ => rfl, fun _ => rfl, fun _ => rfl, fun _ => rfl, fun _ => rfl, fun _ => rfl, fun _ => rfl, fun _ => rfl, fun _ => rfl, fun _ => rfl, fun _ => rfl, fun _ => rfl⟩
set_option maxRecDepth 100000 in
set_option maxHeartbeats 4000000 in
theorem ft_L_law_15 : (∀ f : mE → Prop, w_o (mft ML_law 842) f = f (.invokevirtual 97, 845, 96, 4, 6, 0, 0)) ∧
  (∀ f : mE → Prop, w_o (mft ML_law 845) f = f (.aload_n 2, 846, 2, 0, 0, 0, 0)) ∧
  (∀ f : mE → Prop, w_o (mft ML_law 846) f = f (.aload_n 0, 847, 0, 0, 0, 0, 0)) ∧
  (∀ f : mE → Prop, w_o (mft ML_law 847) f = f (.iload_n 3, 848, 3, 0, 0, 0, 0)) ∧
  (∀ f : mE → Prop, w_o (mft ML_law 848) f = f (.iconst 1, 849, 0, 0, 0, (1), 0)) ∧
  (∀ f : mE → Prop, w_o (mft ML_law 849) f = f (.iadd, 850, 0, 0, 0, 0, 0)) ∧
  (∀ f : mE → Prop, w_o (mft ML_law 850) f = f (.iaload, 851, 0, 0, 0, 0, 0)) ∧
  (∀ f : mE → Prop, w_o (mft ML_law 851) f = f (.aload_n 0, 852, 0, 0, 0, 0, 0)) ∧
  (∀ f : mE → Prop, w_o (mft ML_law 852) f = f (.iload_n 3, 853, 3, 0, 0, 0, 0)) ∧
  (∀ f : mE → Prop, w_o (mft ML_law 853) f = f (.iconst 2, 854, 0, 0, 0, (2), 0)) ∧
  (∀ f : mE → Prop, w_o (mft ML_law 854) f = f (.iadd, 855, 0, 0, 0, 0, 0)) ∧
  (∀ f : mE → Prop, w_o (mft ML_law 855) f = f (.iaload, 856, 0, 0, 0, 0, 0)) ∧
  (∀ f : mE → Prop, w_o (mft ML_law 856) f = f (.aload_n 0, 857, 0, 0, 0, 0, 0)) ∧
  (∀ f : mE → Prop, w_o (mft ML_law 857) f = f (.iload_n 3, 858, 3, 0, 0, 0, 0)) ∧
  (∀ f : mE → Prop, w_o (mft ML_law 858) f = f (.iconst 3, 859, 0, 0, 0, (3), 0)) ∧
  (∀ f : mE → Prop, w_o (mft ML_law 859) f = f (.iadd, 860, 0, 0, 0, 0, 0)) ∧
  (∀ f : mE → Prop, w_o (mft ML_law 860) f = f (.iaload, 861, 0, 0, 0, 0, 0)) ∧
  (∀ f : mE → Prop, w_o (mft ML_law 861) f = f (.aload_n 0, 862, 0, 0, 0, 0, 0)) ∧
  (∀ f : mE → Prop, w_o (mft ML_law 862) f = f (.iload_n 3, 863, 3, 0, 0, 0, 0)) ∧
  (∀ f : mE → Prop, w_o (mft ML_law 863) f = f (.iconst 4, 864, 0, 0, 0, (4), 0)) ∧
  (∀ f : mE → Prop, w_o (mft ML_law 864) f = f (.iadd, 865, 0, 0, 0, 0, 0)) ∧
  (∀ f : mE → Prop, w_o (mft ML_law 865) f = f (.iaload, 866, 0, 0, 0, 0, 0)) ∧
  (∀ f : mE → Prop, w_o (mft ML_law 866) f = f (.invokevirtual 100, 869, 169, 4, 7, 0, 0)) ∧
  (∀ f : mE → Prop, w_o (mft ML_law 869) f = f (.if_icmp .eq 137, 872, 1006, 0, 0, 0, 0)) ∧
  (∀ f : mE → Prop, w_o (mft ML_law 872) f = f (.iconst 0, 873, 0, 0, 0, (0), 0)) ∧
  (∀ f : mE → Prop, w_o (mft ML_law 873) f = f (.ireturn, 874, 0, 0, 1, 0, 0)) ∧
  (∀ f : mE → Prop, w_o (mft ML_law 874) f = f (.aload_n 1, 875, 1, 0, 0, 0, 0)) ∧
  (∀ f : mE → Prop, w_o (mft ML_law 875) f = f (.aload_n 0, 876, 0, 0, 0, 0, 0)) ∧
  (∀ f : mE → Prop, w_o (mft ML_law 876) f = f (.iload_n 3, 877, 3, 0, 0, 0, 0)) ∧
  (∀ f : mE → Prop, w_o (mft ML_law 877) f = f (.iconst 1, 878, 0, 0, 0, (1), 0)) ∧
  (∀ f : mE → Prop, w_o (mft ML_law 878) f = f (.iadd, 879, 0, 0, 0, 0, 0)) ∧
  (∀ f : mE → Prop, w_o (mft ML_law 879) f = f (.iaload, 880, 0, 0, 0, 0, 0)) ∧
  (∀ f : mE → Prop, w_o (mft ML_law 880) f = f (.aload_n 0, 881, 0, 0, 0, 0, 0)) ∧
  (∀ f : mE → Prop, w_o (mft ML_law 881) f = f (.iload_n 3, 882, 3, 0, 0, 0, 0)) ∧
  (∀ f : mE → Prop, w_o (mft ML_law 882) f = f (.iconst 2, 883, 0, 0, 0, (2), 0)) ∧
  (∀ f : mE → Prop, w_o (mft ML_law 883) f = f (.iadd, 884, 0, 0, 0, 0, 0)) ∧
  (∀ f : mE → Prop, w_o (mft ML_law 884) f = f (.iaload, 885, 0, 0, 0, 0, 0)) ∧
  (∀ f : mE → Prop, w_o (mft ML_law 885) f = f (.aload_n 0, 886, 0, 0, 0, 0, 0)) ∧
  (∀ f : mE → Prop, w_o (mft ML_law 886) f = f (.iload_n 3, 887, 3, 0, 0, 0, 0)) ∧
  (∀ f : mE → Prop, w_o (mft ML_law 887) f = f (.iconst 3, 888, 0, 0, 0, (3), 0)) := ⟨fun _ => rfl, fun _ => rfl, fun _ => rfl, fun _ => rfl, fun _ => rfl, fun _ => rfl, fun _ => rfl, fun _ => rfl, fun _ => rfl, fun _ => rfl, fun _ => rfl, fun _ => rfl, fun _ => rfl, fun _ => rfl, fun _ => rfl, fun _ => rfl, fun _ => rfl, fun _ => rfl, fun _ => rfl, fun _ => rfl, fun _ => rfl, fun _ => rfl, fun _ => rfl, fun _ => rfl, fun _ => rfl, fun _ => rfl, fun _ => rfl, fun _ => rfl, fun _ => rfl, fun _ => rfl, fun _ => rfl, fun _ => rfl, fun _ => rfl, fun _ => rfl, fun _ => rfl, fun _ => rfl, fun _ => rfl, fun _ => rfl, fun _ => rfl, fun _ => rfl⟩
set_option maxRecDepth 100000 in
set_option maxHeartbeats 4000000 in
theorem ft_L_law_16 : (∀ f : mE → Prop, w_o (mft ML_law 888) f = f (.iadd, 889, 0, 0, 0, 0, 0)) ∧
  (∀ f : mE → Prop, w_o (mft ML_law 889) f = f (.iaload, 890, 0, 0, 0, 0, 0)) ∧
  (∀ f : mE → Prop, w_o (mft ML_law 890) f = f (.invokevirtual 101, 893, 97, 3, 6, 0, 0)) ∧
  (∀ f : mE → Prop, w_o (mft ML_law 893) f = f (.aload_n 2, 894, 2, 0, 0, 0, 0)) ∧
  (∀ f : mE → Prop, w_o (mft ML_law 894) f = f (.aload_n 0, 895, 0, 0, 0, 0, 0)) ∧
  (∀ f : mE → Prop, w_o (mft ML_law 895) f = f (.iload_n 3, 896, 3, 0, 0, 0, 0)) ∧
  (∀ f : mE → Prop, w_o (mft ML_law 896) f = f (.iconst 1, 897, 0, 0, 0, (1), 0)) ∧
  (∀ f : mE → Prop, w_o (mft ML_law 897) f = f (.iadd, 898, 0, 0, 0, 0, 0)) ∧
  (∀ f : mE → Prop, w_o (mft ML_law 898) f = f (.iaload, 899, 0, 0, 0, 0, 0)) ∧
  (∀ f : mE → Prop, w_o (mft ML_law 899) f = f (.aload_n 0, 900, 0, 0, 0, 0, 0)) ∧
  (∀ f : mE → Prop, w_o (mft ML_law 900) f = f (.iload_n 3, 901, 3, 0, 0, 0, 0)) ∧
  (∀ f : mE → Prop, w_o (mft ML_law 901) f = f (.iconst 2, 902, 0, 0, 0, (2), 0)) ∧
  (∀ f : mE → Prop, w_o (mft ML_law 902) f = f (.iadd, 903, 0, 0, 0, 0, 0)) ∧
  (∀ f : mE → Prop, w_o (mft ML_law 903) f = f (.iaload, 904, 0, 0, 0, 0, 0)) ∧
  (∀ f : mE → Prop, w_o (mft ML_law 904) f = f (.aload_n 0, 905, 0, 0, 0, 0, 0)) ∧
  (∀ f : mE → Prop, w_o (mft ML_law 905) f = f (.iload_n 3, 906, 3, 0, 0, 0, 0)) ∧
  (∀ f : mE → Prop, w_o (mft ML_law 906) f = f (.iconst 3, 907, 0, 0, 0, (3), 0)) ∧
  (∀ f : mE → Prop, w_o (mft ML_law 907) f = f (.iadd, 908, 0, 0, 0, 0, 0)) ∧
  (∀ f : mE → Prop, w_o (mft ML_law 908) f = f (.iaload, 909, 0, 0, 0, 0, 0)) ∧
  (∀ f : mE → Prop, w_o (mft ML_law 909) f = f (.invokevirtual 104, 912, 170, 3, 7, 0, 0)) ∧
  (∀ f : mE → Prop, w_o (mft ML_law 912) f = f (.if_icmp .eq 94, 915, 1006, 0, 0, 0, 0)) ∧
  (∀ f : mE → Prop, w_o (mft ML_law 915) f = f (.iconst 0, 916, 0, 0, 0, (0), 0)) ∧
  (∀ f : mE → Prop, w_o (mft ML_law 916) f = f (.ireturn, 917, 0, 0, 1, 0, 0)) ∧
  (∀ f : mE → Prop, w_o (mft ML_law 917) f = f (.aload_n 1, 918, 1, 0, 0, 0, 0)) ∧
  (∀ f : mE → Prop, w_o (mft ML_law 918) f = f (.aload_n 0, 919, 0, 0, 0, 0, 0)) ∧
  (∀ f : mE → Prop, w_o (mft ML_law 919) f = f (.iload_n 3, 920, 3, 0, 0, 0, 0)) ∧
  (∀ f : mE → Prop, w_o (mft ML_law 920) f = f (.iconst 1, 921, 0, 0, 0, (1), 0)) ∧
  (∀ f : mE → Prop, w_o (mft ML_law 921) f = f (.iadd, 922, 0, 0, 0, 0, 0)) ∧
  (∀ f : mE → Prop, w_o (mft ML_law 922) f = f (.iaload, 923, 0, 0, 0, 0, 0)) ∧
  (∀ f : mE → Prop, w_o (mft ML_law 923) f = f (.aload_n 0, 924, 0, 0, 0, 0, 0)) ∧
  (∀ f : mE → Prop, w_o (mft ML_law 924) f = f (.iload_n 3, 925, 3, 0, 0, 0, 0)) ∧
  (∀ f : mE → Prop, w_o (mft ML_law 925) f = f (.iconst 2, 926, 0, 0, 0, (2), 0)) ∧
  (∀ f : mE → Prop, w_o (mft ML_law 926) f = f (.iadd, 927, 0, 0, 0, 0, 0)) ∧
  (∀ f : mE → Prop, w_o (mft ML_law 927) f = f (.iaload, 928, 0, 0, 0, 0, 0)) ∧
  (∀ f : mE → Prop, w_o (mft ML_law 928) f = f (.invokevirtual 105, 931, 98, 2, 6, 0, 0)) ∧
  (∀ f : mE → Prop, w_o (mft ML_law 931) f = f (.aload_n 2, 932, 2, 0, 0, 0, 0)) ∧
  (∀ f : mE → Prop, w_o (mft ML_law 932) f = f (.aload_n 0, 933, 0, 0, 0, 0, 0)) ∧
  (∀ f : mE → Prop, w_o (mft ML_law 933) f = f (.iload_n 3, 934, 3, 0, 0, 0, 0)) ∧
  (∀ f : mE → Prop, w_o (mft ML_law 934) f = f (.iconst 1, 935, 0, 0, 0, (1), 0)) ∧
  (∀ f : mE → Prop, w_o (mft ML_law 935) f = f (.iadd, 936, 0, 0, 0, 0, 0)) := ⟨fun _ => rfl, fun _ => rfl, fun _ => rfl, fun _ => rfl, fun _ => rfl, fun _ => rfl, fun _ => rfl, fun _ => rfl, fun _ => rfl, fun _ => rfl, fun _ => rfl, fun _ => rfl, fun _ => rfl, fun _ => rfl, fun _ => rfl, fun _ => rfl, fun _ => rfl, fun _ => rfl, fun _ => rfl, fun _ => rfl, fun _ => rfl, fun _ => rfl, fun _ => rfl, fun _ => rfl, fun _ => rfl, fun _ => rfl, fun _ => rfl, fun _ => rfl, fun _ => rfl, fun _ => rfl, fun _ => rfl, fun _ => rfl, fun _ => rfl, fun _ => rfl, fun _ => rfl, fun _ => rfl, fun _ => rfl, fun _ => rfl, fun _ => rfl, fun _ => rfl⟩
set_option maxRecDepth 100000 in
set_option maxHeartbeats 4000000 in
theorem ft_L_law_17 : (∀ f : mE → Prop, w_o (mft ML_law 936) f = f (.iaload, 937, 0, 0, 0, 0, 0)) ∧
  (∀ f : mE → Prop, w_o (mft ML_law 937) f = f (.aload_n 0, 938, 0, 0, 0, 0, 0)) ∧
  (∀ f : mE → Prop, w_o (mft ML_law 938) f = f (.iload_n 3, 939, 3, 0, 0, 0, 0)) ∧
  (∀ f : mE → Prop, w_o (mft ML_law 939) f = f (.iconst 2, 940, 0, 0, 0, (2), 0)) ∧
  (∀ f : mE → Prop, w_o (mft ML_law 940) f = f (.iadd, 941, 0, 0, 0, 0, 0)) ∧
  (∀ f : mE → Prop, w_o (mft ML_law 941) f = f (.iaload, 942, 0, 0, 0, 0, 0)) ∧
  (∀ f : mE → Prop, w_o (mft ML_law 942) f = f (.invokevirtual 108, 945, 171, 2, 7, 0, 0)) ∧
  (∀ f : mE → Prop, w_o (mft ML_law 945) f = f (.if_icmp .eq 61, 948, 1006, 0, 0, 0, 0)) ∧
  (∀ f : mE → Prop, w_o (mft ML_law 948) f = f (.iconst 0, 949, 0, 0, 0, (0), 0)) ∧
  (∀ f : mE → Prop, w_o (mft ML_law 949) f = f (.ireturn, 950, 0, 0, 1, 0, 0)) ∧
  (∀ f : mE → Prop, w_o (mft ML_law 950) f = f (.aload_n 1, 951, 1, 0, 0, 0, 0)) ∧
  (∀ f : mE → Prop, w_o (mft ML_law 951) f = f (.aload_n 0, 952, 0, 0, 0, 0, 0)) ∧
  (∀ f : mE → Prop, w_o (mft ML_law 952) f = f (.iload_n 3, 953, 3, 0, 0, 0, 0)) ∧
  (∀ f : mE → Prop, w_o (mft ML_law 953) f = f (.iconst 1, 954, 0, 0, 0, (1), 0)) ∧
  (∀ f : mE → Prop, w_o (mft ML_law 954) f = f (.iadd, 955, 0, 0, 0, 0, 0)) ∧
  (∀ f : mE → Prop, w_o (mft ML_law 955) f = f (.iaload, 956, 0, 0, 0, 0, 0)) ∧
  (∀ f : mE → Prop, w_o (mft ML_law 956) f = f (.aload_n 0, 957, 0, 0, 0, 0, 0)) ∧
  (∀ f : mE → Prop, w_o (mft ML_law 957) f = f (.iload_n 3, 958, 3, 0, 0, 0, 0)) ∧
  (∀ f : mE → Prop, w_o (mft ML_law 958) f = f (.iconst 2, 959, 0, 0, 0, (2), 0)) ∧
  (∀ f : mE → Prop, w_o (mft ML_law 959) f = f (.iadd, 960, 0, 0, 0, 0, 0)) ∧
  (∀ f : mE → Prop, w_o (mft ML_law 960) f = f (.iaload, 961, 0, 0, 0, 0, 0)) ∧
  (∀ f : mE → Prop, w_o (mft ML_law 961) f = f (.invokevirtual 109, 964, 99, 2, 6, 0, 0)) ∧
  (∀ f : mE → Prop, w_o (mft ML_law 964) f = f (.aload_n 2, 965, 2, 0, 0, 0, 0)) ∧
  (∀ f : mE → Prop, w_o (mft ML_law 965) f = f (.aload_n 0, 966, 0, 0, 0, 0, 0)) ∧
  (∀ f : mE → Prop, w_o (mft ML_law 966) f = f (.iload_n 3, 967, 3, 0, 0, 0, 0)) ∧
  (∀ f : mE → Prop, w_o (mft ML_law 967) f = f (.iconst 1, 968, 0, 0, 0, (1), 0)) ∧
  (∀ f : mE → Prop, w_o (mft ML_law 968) f = f (.iadd, 969, 0, 0, 0, 0, 0)) ∧
  (∀ f : mE → Prop, w_o (mft ML_law 969) f = f (.iaload, 970, 0, 0, 0, 0, 0)) ∧
  (∀ f : mE → Prop, w_o (mft ML_law 970) f = f (.aload_n 0, 971, 0, 0, 0, 0, 0)) ∧
  (∀ f : mE → Prop, w_o (mft ML_law 971) f = f (.iload_n 3, 972, 3, 0, 0, 0, 0)) ∧
  (∀ f : mE → Prop, w_o (mft ML_law 972) f = f (.iconst 2, 973, 0, 0, 0, (2), 0)) ∧
  (∀ f : mE → Prop, w_o (mft ML_law 973) f = f (.iadd, 974, 0, 0, 0, 0, 0)) ∧
  (∀ f : mE → Prop, w_o (mft ML_law 974) f = f (.iaload, 975, 0, 0, 0, 0, 0)) ∧
  (∀ f : mE → Prop, w_o (mft ML_law 975) f = f (.invokevirtual 112, 978, 172, 2, 7, 0, 0)) ∧
  (∀ f : mE → Prop, w_o (mft ML_law 978) f = f (.if_icmp .eq 28, 981, 1006, 0, 0, 0, 0)) ∧
  (∀ f : mE → Prop, w_o (mft ML_law 981) f = f (.iconst 0, 982, 0, 0, 0, (0), 0)) ∧
  (∀ f : mE → Prop, w_o (mft ML_law 982) f = f (.ireturn, 983, 0, 0, 1, 0, 0)) ∧
  (∀ f : mE → Prop, w_o (mft ML_law 983) f = f (.aload_n 1, 984, 1, 0, 0, 0, 0)) ∧
  (∀ f : mE → Prop, w_o (mft ML_law 984) f = f (.aload_n 0, 985, 0, 0, 0, 0, 0)) ∧
  (∀ f : mE → Prop, w_o (mft ML_law 985) f = f (.iload_n 3, 986, 3, 0, 0, 0, 0)) := ⟨fun _ => rfl, fun _ => rfl, fun _ => rfl, fun _ => rfl, fun _ => rfl, fun _ => rfl, fun _ => rfl, fun _ => rfl, fun _ => rfl, fun _ => rfl, fun _ => rfl, fun _ => rfl, fun _ => rfl, fun _ => rfl, fun _ => rfl, fun _ => rfl, fun _ => rfl, fun _ => rfl, fun _ => rfl, fun _ => rfl, fun _ => rfl, fun _ => rfl, fun _ => rfl, fun _ => rfl, fun _ => rfl, fun _ => rfl, fun _ => rfl, fun _ => rfl, fun _ => rfl, fun _ => rfl, fun _ => rfl, fun _ => rfl, fun _ => rfl, fun _ => rfl, fun _ => rfl, fun _ => rfl, fun _ => rfl, fun _ => rfl, fun _ => rfl, fun _ => rfl⟩
set_option maxRecDepth 100000 in
set_option maxHeartbeats 4000000 in
theorem ft_L_law_18 : (∀ f : mE → Prop, w_o (mft ML_law 986) f = f (.iconst 1, 987, 0, 0, 0, (1), 0)) ∧
  (∀ f : mE → Prop, w_o (mft ML_law 987) f = f (.iadd, 988, 0, 0, 0, 0, 0)) ∧
  (∀ f : mE → Prop, w_o (mft ML_law 988) f = f (.iaload, 989, 0, 0, 0, 0, 0)) ∧
  (∀ f : mE → Prop, w_o (mft ML_law 989) f = f (.invokevirtual 113, 992, 100, 1, 6, 0, 0)) ∧
  (∀ f : mE → Prop, w_o (mft ML_law 992) f = f (.aload_n 2, 993, 2, 0, 0, 0, 0)) ∧
  (∀ f : mE → Prop, w_o (mft ML_law 993) f = f (.aload_n 0, 994, 0, 0, 0, 0, 0)) ∧
  (∀ f : mE → Prop, w_o (mft ML_law 994) f = f (.iload_n 3, 995, 3, 0, 0, 0, 0)) ∧
  (∀ f : mE → Prop, w_o (mft ML_law 995) f = f (.iconst 1, 996, 0, 0, 0, (1), 0)) ∧
  (∀ f : mE → Prop, w_o (mft ML_law 996) f = f (.iadd, 997, 0, 0, 0, 0, 0)) ∧
  (∀ f : mE → Prop, w_o (mft ML_law 997) f = f (.iaload, 998, 0, 0, 0, 0, 0)) ∧
  (∀ f : mE → Prop, w_o (mft ML_law 998) f = f (.invokevirtual 116, 1001, 173, 1, 7, 0, 0)) ∧
  (∀ f : mE → Prop, w_o (mft ML_law 1001) f = f (.if_icmp .eq 5, 1004, 1006, 0, 0, 0, 0)) ∧
  (∀ f : mE → Prop, w_o (mft ML_law 1004) f = f (.iconst 0, 1005, 0, 0, 0, (0), 0)) ∧
  (∀ f : mE → Prop, w_o (mft ML_law 1005) f = f (.ireturn, 1006, 0, 0, 1, 0, 0)) ∧
  (∀ f : mE → Prop, w_o (mft ML_law 1006) f = f (.iinc 3 5, 1009, 3, 0, 0, (5), 0)) ∧
  (∀ f : mE → Prop, w_o (mft ML_law 1009) f = f (.goto (-991), 1012, 18, 0, 0, 0, 0)) ∧
  (∀ f : mE → Prop, w_o (mft ML_law 1012) f = f (.iconst 1, 1013, 0, 0, 0, (1), 0)) ∧
  (∀ f : mE → Prop, w_o (mft ML_law 1013) f = f (.ireturn, 1014, 0, 0, 1, 0, 0)) := ⟨fun _ => rfl, fun _ => rfl, fun _ => rfl, fun _ => rfl, fun _ => rfl, fun _ => rfl, fun _ => rfl, fun _ => rfl, fun _ => rfl, fun _ => rfl, fun _ => rfl, fun _ => rfl, fun _ => rfl, fun _ => rfl, fun _ => rfl, fun _ => rfl, fun _ => rfl, fun _ => rfl⟩
theorem all_td {α : Type} {p : α → Bool} (n : Nat) {l : List α} (h1 : (l.take n).all p = true) (h2 : (l.drop n).all p = true) : l.all p = true := by rw [← List.take_append_drop n l, List.all_append, h1, h2]; rfl
set_option maxRecDepth 100000 in
theorem okc_L_law_0 : ((oL_law).take 40).all (okE ML_law) = true := by decide +kernel
set_option maxRecDepth 100000 in
theorem okc_L_law_1 : (((oL_law).drop 40).take 40).all (okE ML_law) = true := by decide +kernel
set_option maxRecDepth 100000 in
theorem okc_L_law_2 : ((((oL_law).drop 40).drop 40).take 40).all (okE ML_law) = true := by decide +kernel
set_option maxRecDepth 100000 in
theorem okc_L_law_3 : (((((oL_law).drop 40).drop 40).drop 40).take 40).all (okE ML_law) = true := by decide +kernel
set_option maxRecDepth 100000 in
theorem okc_L_law_4 : ((((((oL_law).drop 40).drop 40).drop 40).drop 40).take 40).all (okE ML_law) = true := by decide +kernel
set_option maxRecDepth 100000 in
theorem okc_L_law_5 : (((((((oL_law).drop 40).drop 40).drop 40).drop 40).drop 40).take 40).all (okE ML_law) = true := by decide +kernel
set_option maxRecDepth 100000 in
theorem okc_L_law_6 : ((((((((oL_law).drop 40).drop 40).drop 40).drop 40).drop 40).drop 40).take 40).all (okE ML_law) = true := by decide +kernel
set_option maxRecDepth 100000 in
theorem okc_L_law_7 : (((((((((oL_law).drop 40).drop 40).drop 40).drop 40).drop 40).drop 40).drop 40).take 40).all (okE ML_law) = true := by decide +kernel
set_option maxRecDepth 100000 in
theorem okc_L_law_8 : ((((((((((oL_law).drop 40).drop 40).drop 40).drop 40).drop 40).drop 40).drop 40).drop 40).take 40).all (okE ML_law) = true := by decide +kernel
set_option maxRecDepth 100000 in
theorem okc_L_law_9 : (((((((((((oL_law).drop 40).drop 40).drop 40).drop 40).drop 40).drop 40).drop 40).drop 40).drop 40).take 40).all (okE ML_law) = true := by decide +kernel
set_option maxRecDepth 100000 in
theorem okc_L_law_10 : ((((((((((((oL_law).drop 40).drop 40).drop 40).drop 40).drop 40).drop 40).drop 40).drop 40).drop 40).drop 40).take 40).all (okE ML_law) = true := by decide +kernel
set_option maxRecDepth 100000 in
theorem okc_L_law_11 : (((((((((((((oL_law).drop 40).drop 40).drop 40).drop 40).drop 40).drop 40).drop 40).drop 40).drop 40).drop 40).drop 40).take 40).all (okE ML_law) = true := by decide +kernel
set_option maxRecDepth 100000 in
theorem okc_L_law_12 : ((((((((((((((oL_law).drop 40).drop 40).drop 40).drop 40).drop 40).drop 40).drop 40).drop 40).drop 40).drop 40).drop 40).drop 40).take 40).all (okE ML_law) = true := by decide +kernel
set_option maxRecDepth 100000 in
theorem okc_L_law_13 : (((((((((((((((oL_law).drop 40).drop 40).drop 40).drop 40).drop 40).drop 40).drop 40).drop 40).drop 40).drop 40).drop 40).drop 40).drop 40).take 40).all (okE ML_law) = true := by decide +kernel
set_option maxRecDepth 100000 in
theorem okc_L_law_14 : ((((((((((((((((oL_law).drop 40).drop 40).drop 40).drop 40).drop 40).drop 40).drop 40).drop 40).drop 40).drop 40).drop 40).drop 40).drop 40).drop 40).take 40).all (okE ML_law) = true := by decide +kernel
set_option maxRecDepth 100000 in
theorem okc_L_law_15 : (((((((((((((((((oL_law).drop 40).drop 40).drop 40).drop 40).drop 40).drop 40).drop 40).drop 40).drop 40).drop 40).drop 40).drop 40).drop 40).drop 40).drop 40).take 40).all (okE ML_law) = true := by decide +kernel
set_option maxRecDepth 100000 in
theorem okc_L_law_16 : ((((((((((((((((((oL_law).drop 40).drop 40).drop 40).drop 40).drop 40).drop 40).drop 40).drop 40).drop 40).drop 40).drop 40).drop 40).drop 40).drop 40).drop 40).drop 40).take 40).all (okE ML_law) = true := by decide +kernel
set_option maxRecDepth 100000 in
theorem okc_L_law_17 : (((((((((((((((((((oL_law).drop 40).drop 40).drop 40).drop 40).drop 40).drop 40).drop 40).drop 40).drop 40).drop 40).drop 40).drop 40).drop 40).drop 40).drop 40).drop 40).drop 40).take 40).all (okE ML_law) = true := by decide +kernel
set_option maxRecDepth 100000 in
theorem okc_L_law_18 : ((((((((((((((((((((oL_law).drop 40).drop 40).drop 40).drop 40).drop 40).drop 40).drop 40).drop 40).drop 40).drop 40).drop 40).drop 40).drop 40).drop 40).drop 40).drop 40).drop 40).drop 40).take 40).all (okE ML_law) = true := by decide +kernel
set_option maxRecDepth 100000 in
theorem okz_L_law : ((((((((((((((((((((oL_law).drop 40).drop 40).drop 40).drop 40).drop 40).drop 40).drop 40).drop 40).drop 40).drop 40).drop 40).drop 40).drop 40).drop 40).drop 40).drop 40).drop 40).drop 40).drop 40).all (okE ML_law) = true := by decide +kernel
set_option maxRecDepth 100000 in
theorem gd_L_law : mGood ML_law := ⟨all_td 40 okc_L_law_0 (all_td 40 okc_L_law_1 (all_td 40 okc_L_law_2 (all_td 40 okc_L_law_3 (all_td 40 okc_L_law_4 (all_td 40 okc_L_law_5 (all_td 40 okc_L_law_6 (all_td 40 okc_L_law_7 (all_td 40 okc_L_law_8 (all_td 40 okc_L_law_9 (all_td 40 okc_L_law_10 (all_td 40 okc_L_law_11 (all_td 40 okc_L_law_12 (all_td 40 okc_L_law_13 (all_td 40 okc_L_law_14 (all_td 40 okc_L_law_15 (all_td 40 okc_L_law_16 (all_td 40 okc_L_law_17 (all_td 40 okc_L_law_18 (okz_L_law))))))))))))))))))), by decide +kernel, by decide +kernel⟩
set_option maxRecDepth 100000 in
set_option maxHeartbeats 4000000 in
theorem ft_J6_bitCount_0f7a4 : (∀ f : mE → Prop, w_o (mft MJ6_bitCount_0f7a4 0) f = f (.iload_n 0, 1, 0, 0, 0, 0, 0)) ∧
  (∀ f : mE → Prop, w_o (mft MJ6_bitCount_0f7a4 1) f = f (.iload_n 0, 2, 0, 0, 0, 0, 0)) ∧
  (∀ f : mE → Prop, w_o (mft MJ6_bitCount_0f7a4 2) f = f (.iconst 1, 3, 0, 0, 0, (1), 0)) ∧
  (∀ f : mE → Prop, w_o (mft MJ6_bitCount_0f7a4 3) f = f (.iushr, 4, 0, 0, 0, 0, 0)) ∧
  (∀ f : mE → Prop, w_o (mft MJ6_bitCount_0f7a4 4) f = f (.ldc_w 265, 7, 0, 0, 0, (1431655765), 0)) ∧
  (∀ f : mE → Prop, w_o (mft MJ6_bitCount_0f7a4 7) f = f (.iand, 8, 0, 0, 0, 0, 0)) ∧
  (∀ f : mE → Prop, w_o (mft MJ6_bitCount_0f7a4 8) f = f (.isub, 9, 0, 0, 0, 0, 0)) ∧
  (∀ f : mE → Prop, w_o (mft MJ6_bitCount_0f7a4 9) f = f (.istore_n 0, 10, 0, 0, 0, 0, 0)) ∧
  (∀ f : mE → Prop, w_o (mft MJ6_bitCount_0f7a4 10) f = f (.iload_n 0, 11, 0, 0, 0, 0, 0)) ∧
  (∀ f : mE → Prop, w_o (mft MJ6_bitCount_0f7a4 11) f = f (.ldc_w 266, 14, 0, 0, 0, (858993459), 0)) ∧
  (∀ f : mE → Prop, w_o (mft MJ6_bitCount_0f7a4 14) f = f (.iand, 15, 0, 0, 0, 0, 0)) ∧
  (∀ f : mE → Prop, w_o (mft MJ6_bitCount_0f7a4 15) f = f (.iload_n 0, 16, 0, 0, 0, 0, 0)) ∧
  (∀ f : mE → Prop, w_o (mft MJ6_bitCount_0f7a4 16) f = f (.iconst 2, 17, 0, 0, 0, (2), 0)) ∧
  (∀ f : mE → Prop, w_o (mft MJ6_bitCount_0f7a4 17) f = f (.iushr, 18, 0, 0, 0, 0, 0)) ∧
  (∀ f : mE → Prop, w_o (mft MJ6_bitCount_0f7a4 18) f = f (.ldc_w 266, 21, 0, 0, 0, (858993459), 0)) ∧
  (∀ f : mE → Prop, w_o (mft MJ6_bitCount_0f7a4 21) f = f (.iand, 22, 0, 0, 0, 0, 0)) ∧
  (∀ f : mE → Prop, w_o (mft MJ6_bitCount_0f7a4 22) f = f (.iadd, 23, 0, 0, 0, 0, 0)) ∧
  (∀ f : mE → Prop, w_o (mft MJ6_bitCount_0f7a4 23) f = f (.istore_n 0, 24, 0, 0, 0, 0, 0)) ∧
  (∀ f : mE → Prop, w_o (mft MJ6_bitCount_0f7a4 24) f = f (.iload_n 0, 25, 0, 0, 0, 0, 0)) ∧
  (∀ f : mE → Prop, w_o (mft MJ6_bitCount_0f7a4 25) f = f (.iload_n 0, 26, 0, 0, 0, 0, 0)) ∧
  (∀ f : mE → Prop, w_o (mft MJ6_bitCount_0f7a4 26) f = f (.iconst 4, 27, 0, 0, 0, (4), 0)) ∧
  (∀ f : mE → Prop, w_o (mft MJ6_bitCount_0f7a4 27) f = f (.iushr, 28, 0, 0, 0, 0, 0)) ∧
  (∀ f : mE → Prop, w_o (mft MJ6_bitCount_0f7a4 28) f = f (.iadd, 29, 0, 0, 0, 0, 0)) ∧
  (∀ f : mE → Prop, w_o (mft MJ6_bitCount_0f7a4 29) f = f (.ldc_w 267, 32, 0, 0, 0, (252645135), 0)) ∧
  (∀ f : mE → Prop, w_o (mft MJ6_bitCount_0f7a4 32) f = f (.iand, 33, 0, 0, 0, 0, 0)) ∧
  (∀ f : mE → Prop, w_o (mft MJ6_bitCount_0f7a4 33) f = f (.istore_n 0, 34, 0, 0, 0, 0, 0)) ∧
  (∀ f : mE → Prop, w_o (mft MJ6_bitCount_0f7a4 34) f = f (.iload_n 0, 35, 0, 0, 0, 0, 0)) ∧
  (∀ f : mE → Prop, w_o (mft MJ6_bitCount_0f7a4 35) f = f (.iload_n 0, 36, 0, 0, 0, 0, 0)) ∧
  (∀ f : mE → Prop, w_o (mft MJ6_bitCount_0f7a4 36) f = f (.bipush 8, 38, 0, 0, 0, (8), 0)) ∧
  (∀ f : mE → Prop, w_o (mft MJ6_bitCount_0f7a4 38) f = f (.iushr, 39, 0, 0, 0, 0, 0)) ∧
  (∀ f : mE → Prop, w_o (mft MJ6_bitCount_0f7a4 39) f = f (.iadd, 40, 0, 0, 0, 0, 0)) ∧
  (∀ f : mE → Prop, w_o (mft MJ6_bitCount_0f7a4 40) f = f (.istore_n 0, 41, 0, 0, 0, 0, 0)) ∧
  (∀ f : mE → Prop, w_o (mft MJ6_bitCount_0f7a4 41) f = f (.iload_n 0, 42, 0, 0, 0, 0, 0)) ∧
  (∀ f : mE → Prop, w_o (mft MJ6_bitCount_0f7a4 42) f = f (.iload_n 0, 43, 0, 0, 0, 0, 0)) ∧
  (∀ f : mE → Prop, w_o (mft MJ6_bitCount_0f7a4 43) f = f (.bipush 16, 45, 0, 0, 0, (16), 0)) ∧
  (∀ f : mE → Prop, w_o (mft MJ6_bitCount_0f7a4 45) f = f (.iushr, 46, 0, 0, 0, 0, 0)) ∧
  (∀ f : mE → Prop, w_o (mft MJ6_bitCount_0f7a4 46) f = f (.iadd, 47, 0, 0, 0, 0, 0)) ∧
  (∀ f : mE → Prop, w_o (mft MJ6_bitCount_0f7a4 47) f = f (.istore_n 0, 48, 0, 0, 0, 0, 0)) ∧
  (∀ f : mE → Prop, w_o (mft MJ6_bitCount_0f7a4 48) f = f (.iload_n 0, 49, 0, 0, 0, 0, 0)) ∧
  (∀ f : mE → Prop, w_o (mft MJ6_bitCount_0f7a4 49) f = f (.bipush 63, 51, 0, 0, 0, (63), 0)) ∧
  (∀ f : mE → Prop, w_o (mft MJ6_bitCount_0f7a4 51) f = f (.iand, 52, 0, 0, 0, 0, 0)) ∧
  (∀ f : mE → Prop, w_o (mft MJ6_bitCount_0f7a4 52) f = f (.ireturn, 53, 0, 0, 0, 0, 0)) := ⟨fun _ => rfl, fun _ => rfl, fun _ => rfl, fun _ => rfl, fun _ => rfl, fun _ => rfl, fun _ => rfl, fun _ => rfl, fun _ => rfl, fun _ => rfl, fun _ => rfl, fun _ => rfl, fun _ => rfl, fun _ => rfl, fun _ => rfl, fun _ => rfl, fun _ => rfl, fun _ => rfl, fun _ => rfl, fun _ => rfl, fun _ => rfl, fun _ => rfl, fun _ => rfl, fun _ => rfl, fun _ => rfl, fun _ => rfl, fun _ => rfl, fun _ => rfl, fun _ => rfl, fun _ => rfl, fun _ => rfl, fun _ => rfl, fun _ => rfl, fun _ => rfl, fun _ => rfl, fun _ => rfl, fun _ => rfl, fun _ => rfl, fun _ => rfl, fun _ => rfl, fun _ => rfl, fun _ => rfl⟩
set_option maxRecDepth 100000 in
theorem gd_J6_bitCount_0f7a4 : mGood MJ6_bitCount_0f7a4 := ⟨by decide +kernel, by decide +kernel, by decide +kernel⟩
set_option maxRecDepth 100000 in
set_option maxHeartbeats 4000000 in
theorem ft_J9_floorMod_7cf53 : (∀ f : mE → Prop, w_o (mft MJ9_floorMod_7cf53 0) f = f (.iload_n 0, 1, 0, 0, 0, 0, 0)) ∧
  (∀ f : mE → Prop, w_o (mft MJ9_floorMod_7cf53 1) f = f (.iload_n 1, 2, 1, 0, 0, 0, 0)) ∧
  (∀ f : mE → Prop, w_o (mft MJ9_floorMod_7cf53 2) f = f (.irem, 3, 0, 0, 0, 0, 0)) ∧
  (∀ f : mE → Prop, w_o (mft MJ9_floorMod_7cf53 3) f = f (.istore_n 2, 4, 2, 0, 0, 0, 0)) ∧
  (∀ f : mE → Prop, w_o (mft MJ9_floorMod_7cf53 4) f = f (.iload_n 0, 5, 0, 0, 0, 0, 0)) ∧
  (∀ f : mE → Prop, w_o (mft MJ9_floorMod_7cf53 5) f = f (.iload_n 1, 6, 1, 0, 0, 0, 0)) ∧
  (∀ f : mE → Prop, w_o (mft MJ9_floorMod_7cf53 6) f = f (.ixor, 7, 0, 0, 0, 0, 0)) ∧
  (∀ f : mE → Prop, w_o (mft MJ9_floorMod_7cf53 7) f = f (.ifCond .ge 11, 10, 18, 0, 0, 0, 0)) ∧
  (∀ f : mE → Prop, w_o (mft MJ9_floorMod_7cf53 10) f = f (.iload_n 2, 11, 2, 0, 0, 0, 0)) ∧
  (∀ f : mE → Prop, w_o (mft MJ9_floorMod_7cf53 11) f = f (.ifCond .eq 7, 14, 18, 0, 0, 0, 0)) ∧
  (∀ f : mE → Prop, w_o (mft MJ9_floorMod_7cf53 14) f = f (.iload_n 2, 15, 2, 0, 0, 0, 0)) ∧
  (∀ f : mE → Prop, w_o (mft MJ9_floorMod_7cf53 15) f = f (.iload_n 1, 16, 1, 0, 0, 0, 0)) ∧
  (∀ f : mE → Prop, w_o (mft MJ9_floorMod_7cf53 16) f = f (.iadd, 17, 0, 0, 0, 0, 0)) ∧
  (∀ f : mE → Prop, w_o (mft MJ9_floorMod_7cf53 17) f = f (.ireturn, 18, 0, 0, 0, 0, 0)) ∧
  (∀ f : mE → Prop, w_o (mft MJ9_floorMod_7cf53 18) f = f (.iload_n 2, 19, 2, 0, 0, 0, 0)) ∧
  (∀ f : mE → Prop, w_o (mft MJ9_floorMod_7cf53 19) f = f (.ireturn, 20, 0, 0, 0, 0, 0)) := ⟨fun _ => rfl, fun _ => rfl, fun _ => rfl, fun _ => rfl, fun _ => rfl, fun _ => rfl, fun _ => rfl, fun _ => rfl, fun _ => rfl, fun _ => rfl, fun _ => rfl, fun _ => rfl, fun _ => rfl, fun _ => rfl, fun _ => rfl, fun _ => rfl⟩
set_option maxRecDepth 100000 in
theorem gd_J9_floorMod_7cf53 : mGood MJ9_floorMod_7cf53 := ⟨by decide +kernel, by decide +kernel, by decide +kernel⟩
set_option maxRecDepth 100000 in
set_option maxHeartbeats 4000000 in
theorem ft_J0_length_8abf5 : (∀ f : mE → Prop, w_o (mft MJ0_length_8abf5 0) f = f (.aload_n 0, 1, 0, 0, 0, 0, 0)) ∧
  (∀ f : mE → Prop, w_o (mft MJ0_length_8abf5 1) f = f (.getfield 9, 4, 99, 0, 0, 0, 0)) ∧
  (∀ f : mE → Prop, w_o (mft MJ0_length_8abf5 4) f = f (.arraylength, 5, 0, 0, 0, 0, 0)) ∧
  (∀ f : mE → Prop, w_o (mft MJ0_length_8abf5 5) f = f (.aload_n 0, 6, 0, 0, 0, 0, 0)) ∧
  (∀ f : mE → Prop, w_o (mft MJ0_length_8abf5 6) f = f (.invokevirtual 335, 9, 999, 0, 0, 0, 0)) ∧
  (∀ f : mE → Prop, w_o (mft MJ0_length_8abf5 9) f = f (.ishr, 10, 0, 0, 0, 0, 0)) ∧
  (∀ f : mE → Prop, w_o (mft MJ0_length_8abf5 10) f = f (.ireturn, 11, 0, 0, 0, 0, 0)) := ⟨fun _ => rfl, fun _ => rfl, fun _ => rfl, fun _ => rfl, fun _ => rfl, fun _ => rfl, fun _ => rfl⟩
set_option maxRecDepth 100000 in
theorem gd_J0_length_8abf5 : mGood MJ0_length_8abf5 := ⟨by decide +kernel, by decide +kernel, by decide +kernel⟩
set_option maxRecDepth 100000 in
set_option maxHeartbeats 4000000 in
theorem ft_J0_indexOf_0f7a4 : (∀ f : mE → Prop, w_o (mft MJ0_indexOf_0f7a4 0) f = f (.aload_n 0, 1, 0, 0, 0, 0, 0)) ∧
  (∀ f : mE → Prop, w_o (mft MJ0_indexOf_0f7a4 1) f = f (.iload_n 1, 2, 1, 0, 0, 0, 0)) ∧
  (∀ f : mE → Prop, w_o (mft MJ0_indexOf_0f7a4 2) f = f (.iconst 0, 3, 0, 0, 0, (0), 0)) ∧
  (∀ f : mE → Prop, w_o (mft MJ0_indexOf_0f7a4 3) f = f (.invokevirtual 633, 6, 999, 0, 0, 0, 0)) ∧
  (∀ f : mE → Prop, w_o (mft MJ0_indexOf_0f7a4 6) f = f (.ireturn, 7, 0, 0, 0, 0, 0)) := ⟨fun _ => rfl, fun _ => rfl, fun _ => rfl, fun _ => rfl, fun _ => rfl⟩
set_option maxRecDepth 100000 in
theorem gd_J0_indexOf_0f7a4 : mGood MJ0_indexOf_0f7a4 := ⟨by decide +kernel, by decide +kernel, by decide +kernel⟩
set_option maxRecDepth 100000 in
set_option maxHeartbeats 4000000 in
theorem ft_J0_indexOf_7cf53 : (∀ f : mE → Prop, w_o (mft MJ0_indexOf_7cf53 0) f = f (.aload_n 0, 1, 0, 0, 0, 0, 0)) ∧
  (∀ f : mE → Prop, w_o (mft MJ0_indexOf_7cf53 1) f = f (.invokevirtual 492, 4, 999, 0, 0, 0, 0)) ∧
  (∀ f : mE → Prop, w_o (mft MJ0_indexOf_7cf53 4) f = f (.ifCond .eq 19, 7, 23, 0, 0, 0, 0)) ∧
  (∀ f : mE → Prop, w_o (mft MJ0_indexOf_7cf53 7) f = f (.aload_n 0, 8, 0, 0, 0, 0, 0)) ∧
  (∀ f : mE → Prop, w_o (mft MJ0_indexOf_7cf53 8) f = f (.getfield 9, 11, 99, 0, 0, 0, 0)) ∧
  (∀ f : mE → Prop, w_o (mft MJ0_indexOf_7cf53 11) f = f (.iload_n 1, 12, 1, 0, 0, 0, 0)) ∧
  (∀ f : mE → Prop, w_o (mft MJ0_indexOf_7cf53 12) f = f (.iload_n 2, 13, 2, 0, 0, 0, 0)) ∧
  (∀ f : mE → Prop, w_o (mft MJ0_indexOf_7cf53 13) f = f (.aload_n 0, 14, 0, 0, 0, 0, 0)) ∧
  (∀ f : mE → Prop, w_o (mft MJ0_indexOf_7cf53 14) f = f (.invokevirtual 505, 17, 999, 0, 0, 0, 0)) ∧
  (∀ f : mE → Prop, w_o (mft MJ0_indexOf_7cf53 17) f = f (.invokestatic 637, 20, 183, 4, 12, 0, 0)) ∧
  (∀ f : mE → Prop, w_o (mft MJ0_indexOf_7cf53 20) f = f (.goto 16, 23, 36, 0, 0, 0, 0)) ∧
  (∀ f : mE → Prop, w_o (mft MJ0_indexOf_7cf53 36) f = f (.ireturn, 37, 0, 0, 0, 0, 0)) := ⟨fun _ => rfl, fun _ => rfl, fun _ => rfl, fun _ => rfl, fun _ => rfl, fun _ => rfl, fun _ => rfl, fun _ => rfl, fun _ => rfl, fun _ => rfl, fun _ => rfl, fun _ => rfl⟩
set_option maxRecDepth 100000 in
theorem gd_J0_indexOf_7cf53 : mGood MJ0_indexOf_7cf53 := ⟨by decide +kernel, by decide +kernel, by decide +kernel⟩
set_option maxRecDepth 100000 in
set_option maxHeartbeats 4000000 in
theorem ft_J0_coder_7d493 : (∀ f : mE → Prop, w_o (mft MJ0_coder_7d493 0) f = f (.getstatic 38, 3, 0, 0, 0, 0, 0)) ∧
  (∀ f : mE → Prop, w_o (mft MJ0_coder_7d493 3) f = f (.ifCond .eq 10, 6, 13, 0, 0, 0, 0)) ∧
  (∀ f : mE → Prop, w_o (mft MJ0_coder_7d493 6) f = f (.aload_n 0, 7, 0, 0, 0, 0, 0)) ∧
  (∀ f : mE → Prop, w_o (mft MJ0_coder_7d493 7) f = f (.getfield 15, 10, 99, 0, 0, 0, 0)) ∧
  (∀ f : mE → Prop, w_o (mft MJ0_coder_7d493 10) f = f (.goto 4, 13, 14, 0, 0, 0, 0)) ∧
  (∀ f : mE → Prop, w_o (mft MJ0_coder_7d493 13) f = f (.iconst 1, 14, 0, 0, 0, (1), 0)) ∧
  (∀ f : mE → Prop, w_o (mft MJ0_coder_7d493 14) f = f (.ireturn, 15, 0, 0, 9, 0, 0)) := ⟨fun _ => rfl, fun _ => rfl, fun _ => rfl, fun _ => rfl, fun _ => rfl, fun _ => rfl, fun _ => rfl⟩
set_option maxRecDepth 100000 in
theorem gd_J0_coder_7d493 : mGood MJ0_coder_7d493 := ⟨by decide +kernel, by decide +kernel, by decide +kernel⟩
set_option maxRecDepth 100000 in
set_option maxHeartbeats 4000000 in
theorem ft_J0_isLatin1_aae02 : (∀ f : mE → Prop, w_o (mft MJ0_isLatin1_aae02 0) f = f (.getstatic 38, 3, 0, 0, 0, 0, 0)) ∧
  (∀ f : mE → Prop, w_o (mft MJ0_isLatin1_aae02 3) f = f (.ifCond .eq 14, 6, 17, 0, 0, 0, 0)) ∧
  (∀ f : mE → Prop, w_o (mft MJ0_isLatin1_aae02 6) f = f (.aload_n 0, 7, 0, 0, 0, 0, 0)) ∧
  (∀ f : mE → Prop, w_o (mft MJ0_isLatin1_aae02 7) f = f (.getfield 15, 10, 99, 0, 0, 0, 0)) ∧
  (∀ f : mE → Prop, w_o (mft MJ0_isLatin1_aae02 10) f = f (.ifCond .ne 7, 13, 17, 0, 0, 0, 0)) ∧
  (∀ f : mE → Prop, w_o (mft MJ0_isLatin1_aae02 13) f = f (.iconst 1, 14, 0, 0, 0, (1), 0)) ∧
  (∀ f : mE → Prop, w_o (mft MJ0_isLatin1_aae02 14) f = f (.goto 4, 17, 18, 0, 0, 0, 0)) ∧
  (∀ f : mE → Prop, w_o (mft MJ0_isLatin1_aae02 17) f = f (.iconst 0, 18, 0, 0, 0, (0), 0)) ∧
  (∀ f : mE → Prop, w_o (mft MJ0_isLatin1_aae02 18) f = f (.ireturn, 19, 0, 0, 1, 0, 0)) := ⟨fun _ => rfl, fun _ => rfl, fun _ => rfl, fun _ => rfl, fun _ => rfl, fun _ => rfl, fun _ => rfl, fun _ => rfl, fun _ => rfl⟩
set_option maxRecDepth 100000 in
theorem gd_J0_isLatin1_aae02 : mGood MJ0_isLatin1_aae02 := ⟨by decide +kernel, by decide +kernel, by decide +kernel⟩
set_option maxRecDepth 100000 in
set_option maxHeartbeats 4000000 in
theorem ft_J1_canEncode_9a6ad : (∀ f : mE → Prop, w_o (mft MJ1_canEncode_9a6ad 0) f = f (.iload_n 0, 1, 0, 0, 0, 0, 0)) ∧
  (∀ f : mE → Prop, w_o (mft MJ1_canEncode_9a6ad 1) f = f (.ifCond .lt 14, 4, 15, 0, 0, 0, 0)) ∧
  (∀ f : mE → Prop, w_o (mft MJ1_canEncode_9a6ad 4) f = f (.iload_n 0, 5, 0, 0, 0, 0, 0)) ∧
  (∀ f : mE → Prop, w_o (mft MJ1_canEncode_9a6ad 5) f = f (.sipush 255, 8, 0, 0, 0, (255), 0)) ∧
  (∀ f : mE → Prop, w_o (mft MJ1_canEncode_9a6ad 8) f = f (.if_icmp .gt 7, 11, 15, 0, 0, 0, 0)) ∧
  (∀ f : mE → Prop, w_o (mft MJ1_canEncode_9a6ad 11) f = f (.iconst 1, 12, 0, 0, 0, (1), 0)) ∧
  (∀ f : mE → Prop, w_o (mft MJ1_canEncode_9a6ad 12) f = f (.goto 4, 15, 16, 0, 0, 0, 0)) ∧
  (∀ f : mE → Prop, w_o (mft MJ1_canEncode_9a6ad 15) f = f (.iconst 0, 16, 0, 0, 0, (0), 0)) ∧
  (∀ f : mE → Prop, w_o (mft MJ1_canEncode_9a6ad 16) f = f (.ireturn, 17, 0, 0, 1, 0, 0)) := ⟨fun _ => rfl, fun _ => rfl, fun _ => rfl, fun _ => rfl, fun _ => rfl, fun _ => rfl, fun _ => rfl, fun _ => rfl, fun _ => rfl⟩
set_option maxRecDepth 100000 in
theorem gd_J1_canEncode_9a6ad : mGood MJ1_canEncode_9a6ad := ⟨by decide +kernel, by decide +kernel, by decide +kernel⟩
set_option maxRecDepth 100000 in
set_option maxHeartbeats 4000000 in
theorem ft_J1_indexOf_4cfef : (∀ f : mE → Prop, w_o (mft MJ1_indexOf_4cfef 0) f = f (.iload_n 1, 1, 1, 0, 0, 0, 0)) ∧
  (∀ f : mE → Prop, w_o (mft MJ1_indexOf_4cfef 1) f = f (.invokestatic 88, 4, 182, 1, 12, 0, 0)) ∧
  (∀ f : mE → Prop, w_o (mft MJ1_indexOf_4cfef 4) f = f (.ifCond .ne 5, 7, 9, 0, 0, 0, 0)) ∧
  (∀ f : mE → Prop, w_o (mft MJ1_indexOf_4cfef 7) f = f (.iconst (-1), 8, 0, 0, 0, (-1), 0)) ∧
  (∀ f : mE → Prop, w_o (mft MJ1_indexOf_4cfef 8) f = f (.ireturn, 9, 0, 0, 0, 0, 0)) ∧
  (∀ f : mE → Prop, w_o (mft MJ1_indexOf_4cfef 9) f = f (.iload_n 2, 10, 2, 0, 0, 0, 0)) ∧
  (∀ f : mE → Prop, w_o (mft MJ1_indexOf_4cfef 10) f = f (.iconst 0, 11, 0, 0, 0, (0), 0)) ∧
  (∀ f : mE → Prop, w_o (mft MJ1_indexOf_4cfef 11) f = f (.invokestatic 92, 14, 1010, 0, 0, 0, 0)) ∧
  (∀ f : mE → Prop, w_o (mft MJ1_indexOf_4cfef 14) f = f (.istore_n 2, 15, 2, 0, 0, 0, 0)) ∧
  (∀ f : mE → Prop, w_o (mft MJ1_indexOf_4cfef 15) f = f (.iload_n 3, 16, 3, 0, 0, 0, 0)) ∧
  (∀ f : mE → Prop, w_o (mft MJ1_indexOf_4cfef 16) f = f (.aload_n 0, 17, 0, 0, 0, 0, 0)) ∧
  (∀ f : mE → Prop, w_o (mft MJ1_indexOf_4cfef 17) f = f (.arraylength, 18, 0, 0, 0, 0, 0)) ∧
  (∀ f : mE → Prop, w_o (mft MJ1_indexOf_4cfef 18) f = f (.invokestatic 38, 21, 1011, 0, 0, 0, 0)) ∧
  (∀ f : mE → Prop, w_o (mft MJ1_indexOf_4cfef 21) f = f (.istore_n 3, 22, 3, 0, 0, 0, 0)) ∧
  (∀ f : mE → Prop, w_o (mft MJ1_indexOf_4cfef 22) f = f (.iload_n 2, 23, 2, 0, 0, 0, 0)) ∧
  (∀ f : mE → Prop, w_o (mft MJ1_indexOf_4cfef 23) f = f (.iload_n 3, 24, 3, 0, 0, 0, 0)) ∧
  (∀ f : mE → Prop, w_o (mft MJ1_indexOf_4cfef 24) f = f (.if_icmp .lt 5, 27, 29, 0, 0, 0, 0)) ∧
  (∀ f : mE → Prop, w_o (mft MJ1_indexOf_4cfef 27) f = f (.iconst (-1), 28, 0, 0, 0, (-1), 0)) ∧
  (∀ f : mE → Prop, w_o (mft MJ1_indexOf_4cfef 28) f = f (.ireturn, 29, 0, 0, 0, 0, 0)) ∧
  (∀ f : mE → Prop, w_o (mft MJ1_indexOf_4cfef 29) f = f (.aload_n 0, 30, 0, 0, 0, 0, 0)) ∧
  (∀ f : mE → Prop, w_o (mft MJ1_indexOf_4cfef 30) f = f (.iload_n 1, 31, 1, 0, 0, 0, 0)) ∧
  (∀ f : mE → Prop, w_o (mft MJ1_indexOf_4cfef 31) f = f (.iload_n 2, 32, 2, 0, 0, 0, 0)) ∧
  (∀ f : mE → Prop, w_o (mft MJ1_indexOf_4cfef 32) f = f (.iload_n 3, 33, 3, 0, 0, 0, 0)) ∧
  (∀ f : mE → Prop, w_o (mft MJ1_indexOf_4cfef 33) f = f (.invokestatic 95, 36, 184, 4, 12, 0, 0)) ∧
  (∀ f : mE → Prop, w_o (mft MJ1_indexOf_4cfef 36) f = f (.ireturn, 37, 0, 0, 0, 0, 0)) := ⟨fun _ => rfl, fun _ => rfl, fun _ => rfl, fun _ => rfl, fun _ => rfl, fun _ => rfl, fun _ => rfl, fun _ => rfl, fun _ => rfl, fun _ => rfl, fun _ => rfl, fun _ => rfl, fun _ => rfl, fun _ => rfl, fun _ => rfl, fun _ => rfl, fun _ => rfl, fun _ => rfl, fun _ => rfl, fun _ => rfl, fun _ => rfl, fun _ => rfl, fun _ => rfl, fun _ => rfl, fun _ => rfl⟩
set_option maxRecDepth 100000 in
theorem gd_J1_indexOf_4cfef : mGood MJ1_indexOf_4cfef := ⟨by decide +kernel, by decide +kernel, by decide +kernel⟩
set_option maxRecDepth 100000 in
set_option maxHeartbeats 4000000 in
theorem ft_J1_indexOfChar_4cfef : (∀ f : mE → Prop, w_o (mft MJ1_indexOfChar_4cfef 0) f = f (.iload_n 1, 1, 1, 0, 0, 0, 0)) ∧
  (∀ f : mE → Prop, w_o (mft MJ1_indexOfChar_4cfef 1) f = f (.i2b, 2, 0, 0, 0, 0, 0)) ∧
  (∀ f : mE → Prop, w_o (mft MJ1_indexOfChar_4cfef 2) f = f (.istore 4, 4, 4, 0, 0, 0, 0)) ∧
  (∀ f : mE → Prop, w_o (mft MJ1_indexOfChar_4cfef 4) f = f (.iload_n 2, 5, 2, 0, 0, 0, 0)) ∧
  (∀ f : mE → Prop, w_o (mft MJ1_indexOfChar_4cfef 5) f = f (.istore 5, 7, 5, 0, 0, 0, 0)) ∧
  (∀ f : mE → Prop, w_o (mft MJ1_indexOfChar_4cfef 7) f = f (.iload 5, 9, 5, 0, 0, 0, 0)) ∧
  (∀ f : mE → Prop, w_o (mft MJ1_indexOfChar_4cfef 9) f = f (.iload_n 3, 10, 3, 0, 0, 0, 0)) ∧
  (∀ f : mE → Prop, w_o (mft MJ1_indexOfChar_4cfef 10) f = f (.if_icmp .ge 21, 13, 31, 0, 0, 0, 0)) ∧
  (∀ f : mE → Prop, w_o (mft MJ1_indexOfChar_4cfef 13) f = f (.aload_n 0, 14, 0, 0, 0, 0, 0)) ∧
  (∀ f : mE → Prop, w_o (mft MJ1_indexOfChar_4cfef 14) f = f (.iload 5, 16, 5, 0, 0, 0, 0)) ∧
  (∀ f : mE → Prop, w_o (mft MJ1_indexOfChar_4cfef 16) f = f (.baload, 17, 1, 0, 0, 0, 0)) ∧
  (∀ f : mE → Prop, w_o (mft MJ1_indexOfChar_4cfef 17) f = f (.iload 4, 19, 4, 0, 0, 0, 0)) ∧
  (∀ f : mE → Prop, w_o (mft MJ1_indexOfChar_4cfef 19) f = f (.if_icmp .ne 6, 22, 25, 0, 0, 0, 0)) ∧
  (∀ f : mE → Prop, w_o (mft MJ1_indexOfChar_4cfef 22) f = f (.iload 5, 24, 5, 0, 0, 0, 0)) ∧
  (∀ f : mE → Prop, w_o (mft MJ1_indexOfChar_4cfef 24) f = f (.ireturn, 25, 0, 0, 0, 0, 0)) ∧
  (∀ f : mE → Prop, w_o (mft MJ1_indexOfChar_4cfef 25) f = f (.iinc 5 1, 28, 5, 0, 0, (1), 0)) ∧
  (∀ f : mE → Prop, w_o (mft MJ1_indexOfChar_4cfef 28) f = f (.goto (-21), 31, 7, 0, 0, 0, 0)) ∧
  (∀ f : mE → Prop, w_o (mft MJ1_indexOfChar_4cfef 31) f = f (.iconst (-1), 32, 0, 0, 0, (-1), 0)) ∧
  (∀ f : mE → Prop, w_o (mft MJ1_indexOfChar_4cfef 32) f = f (.ireturn, 33, 0, 0, 0, 0, 0)) := ⟨fun _ => rfl, fun _ => rfl, fun _ => rfl, fun _ => rfl, fun _ => rfl, fun _ => rfl, fun _ => rfl, fun _ => rfl, fun _ => rfl, fun _ => rfl, fun _ => rfl, fun _ => rfl, fun _ => rfl, fun _ => rfl, fun _ => rfl, fun _ => rfl, fun _ => rfl, fun _ => rfl, fun _ => rfl⟩
set_option maxRecDepth 100000 in
theorem gd_J1_indexOfChar_4cfef : mGood MJ1_indexOfChar_4cfef := ⟨by decide +kernel, by decide +kernel, by decide +kernel⟩
