/-! the tables are right; one step of wpI is a step of the machine -/
def stdLen (i : Instr) : Nat := match i with
  | .newarray _ | .ldc _ | .bipush _ | .iload _ | .aload _ | .lload _ | .istore _ | .astore _ | .lstore _ => 2
  | .new _ | .anewarray _ | .ldc_w _ | .sipush _ | .ldc2_w _ | .getstatic _ | .iinc _ _ | .ifCond _ _ | .if_icmp _ _ | .goto _ | .getfield _ | .putfield _ | .invokevirtual _ | .invokestatic _ | .invokespecial _ => 3
  | .multianewarray _ _ => 4
  | .tableswitch _ _ _ _ | .lookupswitch _ _ => 0
  | _ => 1
def okR (M : mI) (pc : Nat) (e : mE) : Bool := match e with
  | (ins, _, a, b, c, v, w) => match ins with
    | .iconst n => decide (Int32.ofInt n = v)
    | .bipush n => decide ((Int8.ofInt n).toInt32 = v)
    | .sipush n => decide ((Int16.ofInt n).toInt32 = v)
    | .lconst n => decide (Int64.ofNat (n : Nat) = w)
    | .ldc2_w i => rTabL.any (fun q => q.1 == mCls M && (q.2.1 == i && q.2.2.1 == w))
    | .iload_n n | .aload_n n | .lload_n n => decide ((n : Nat) = a)
    | .istore_n n | .astore_n n => decide ((n : Nat) = a ∧ a < mMx M)
    | .iload i | .aload i | .lload i | .lstore i => decide (i = a)
    | .istore i | .astore i => decide (i = a ∧ a < mMx M)
    | .iinc i n => decide (i = a ∧ Int32.ofInt n = v)
    | .ifCond _ off | .if_icmp _ off | .goto off => decide ((pc : Int) + off = (a : Int))
    | .getfield i => a == 99 || rTabF.any (fun q => q.1 == mCls M && (q.2.1 == i && (q.2.2.1 == a && q.2.2.2.1 == b)))
    | .putfield i => rTabF.any (fun q => q.1 == mCls M && (q.2.1 == i && (q.2.2.1 == a && (q.2.2.2.1 == b && q.2.2.2.2.1 == 0)))) && ((match vwCl[a]? with | some c => !(c.2.1 b).2.2.2 || (decide ((mNm M).name = "<init>") && decide (c.1 = mOwn (mCls M))) | none => false) && (match c, tyCl a b with | 0, .int => true | 1, .boolean => true | 2, .object _ => true | 2, .array _ => true | _, _ => false))
    | .baload | .bastore => a == 1 || a == 2
    | .aaload => a == 3 || (a == 4 || a == 5)
    | .invokevirtual i => a == 999 || (rTabM.any (fun q => q.1 == mCls M && (q.2.1 == i && (q.2.2.1 == a && q.2.2.2.1 == 0))) && rTabW.any (fun q => q.1 == a && (q.2.1 == 0 && q.2.2.1 == b)) && decide (mCls (mtab a) = c))
    | .invokestatic i => if a = 1000 ∨ a = 1010 ∨ a = 1011 ∨ a = 1012 ∨ a = 1013 then rTabS.any (fun q => q.1 == mCls M && (q.2.1 == i && q.2.2.1 == a)) else (rTabM.any (fun q => q.1 == mCls M && (q.2.1 == i && (q.2.2.1 == a && q.2.2.2.1 == 0))) && rTabW.any (fun q => q.1 == a && (q.2.1 == 1 && q.2.2.1 == b)))
    | .invokespecial i => if a = 1001 then rTabS.any (fun q => q.1 == mCls M && (q.2.1 == i && q.2.2.1 == a)) else (rTabM.any (fun q => q.1 == mCls M && (q.2.1 == i && q.2.2.1 == a)) && rTabW.any (fun q => q.1 == a && (q.2.1 == 2 && q.2.2.1 == b)))
    | .ireturn => c == 9 || (match c, mRt M with | 0, some .int => true | 1, some .boolean => true | _, _ => false)
    | .areturn => (match mRt M with | some (.object _) => true | _ => false)
    | .return_ => decide (mRt M = none)
    | _ => true
def okE (M : mI) (q : Nat × mE) : Bool := decide (q.1 ≤ q.2.2.1 ∧ decode (mCd M) q.1 = .ok (q.2.1, q.2.2.1 - q.1)) && (decide (stdLen q.2.1 = 0 ∨ q.2.2.1 = q.1 + stdLen q.2.1) && okR M q.1 q.2)
def okM (M : mI) : Bool := (mOps M).all (okE M)
/-- methods of the JDK that have rows of their own -/
def spName (n : Nat) : MethodName := if n = 1001 then objectInit else if n = 1000 then arraycopyName else if n = 1010 then Lib.Math.max.name else if n = 1011 then Lib.Math.min.name else if n = 1012 then Lib.Math.abs.name else ⟨"java/lang/Math", "floorMod", "(II)I"⟩
def okF (q : Nat × Nat × Nat × Nat × Nat × Nat) : Bool := match vwCl[q.2.2.1]? with
  | some (C, T, n) => decide (q.2.2.2.1 < n) && (decide ((T q.2.2.2.1).1 = C) && (if q.2.2.2.2.1 = 0 then decide (lw_tbl[q.2.2.2.2.2]? = some (.fieldLink (mOwn q.1) q.2.1 C (T q.2.2.2.1).2.1 (T q.2.2.2.1).2.2.1)) else decide (lw_tbl[q.2.2.2.2.2]? = some (.fieldLinkNest (mOwn q.1) q.2.1 C (T q.2.2.2.1).2.1 (T q.2.2.2.1).2.2.1 "CornerFronts"))))
  | none => false
def okMl (q : Nat × Nat × Nat × Nat × Nat) : Bool := if q.2.2.2.1 = 0 then decide (lw_tbl[q.2.2.2.2]? = some (.methodLink (mOwn q.1) q.2.1 (mNm (mtab q.2.2.1)))) else decide (lw_tbl[q.2.2.2.2]? = some (.methodLinkNest (mOwn q.1) q.2.1 (mNm (mtab q.2.2.1)) "CornerFronts"))
def okW (q : Nat × Nat × Nat × Nat × Nat × Nat × Nat) : Bool :=
  ((if q.2.1 = 1 then decide (lw_tbl[q.2.2.2.2.1]? = some (.static (mNm (mtab q.1)))) else decide (lw_tbl[q.2.2.2.2.1]? = some (.instanceMethod (mNm (mtab q.1))))) &&
  ((if q.2.1 = 0 then decide (lw_tbl[q.2.2.2.2.2.1]? = some (.selects (mNm (mtab q.1)).cls (mNm (mtab q.1)) (mNm (mtab q.1)))) else true) &&
  (decide (lw_tbl[q.2.2.2.2.2.2]? = some (.initialized (mNm (mtab q.1)).cls)) &&
  (decide ((mNm (mtab q.1)).cls ≠ "java/lang/invoke/MethodHandle" ∧ (mNm (mtab q.1)).cls ≠ "java/lang/invoke/VarHandle" ∧ (parseMethodDescriptor (mNm (mtab q.1)).desc).map (fun d => d.parameters.length) = some q.2.2.1) &&
  (decide (plainFor (mNm (mtab q.1)) = true ∧ mMx (mtab q.1) ≤ 45 ∧ mOwn (mCls (mtab q.1)) = (mNm (mtab q.1)).cls) &&
  ((if q.2.1 = 2 then decide ((mNm (mtab q.1)).name = "<init>" ∧ mRt (mtab q.1) = none) else true) && (if q.2.1 = 0 then decide ((vwCl[mCls (mtab q.1)]?).map (fun c => c.1) = some (mNm (mtab q.1)).cls) else true)))))))
set_option maxRecDepth 100000 in
theorem tabF_ok : rTabF.all okF = true := by decide +kernel
set_option maxRecDepth 100000 in
theorem tabM_ok : rTabM.all okMl = true := by decide +kernel
set_option maxRecDepth 100000 in
theorem tabL_ok : rTabL.all (fun q => decide (lw_tbl[q.2.2.2]? = some (.constantLong (mOwn q.1) q.2.1 q.2.2.1))) = true := by decide +kernel
set_option maxRecDepth 100000 in
theorem tabS_ok : rTabS.all (fun q => decide (lw_tbl[q.2.2.2]? = some (.methodLink (mOwn q.1) q.2.1 (spName q.2.2.1)))) = true := by decide +kernel
set_option maxRecDepth 100000 in
theorem posS_ok : Cond.instanceMethod objectInit ∈ lw_tbl ∧ Cond.code objectInit ⟨#[0xb1]⟩ 1 none ∈ lw_tbl ∧ Cond.native arraycopyName ∈ lw_tbl ∧ Cond.static arraycopyName ∈ lw_tbl ∧ Cond.initialized "java/lang/System" ∈ lw_tbl :=
  ⟨List.mem_of_getElem? (i := posS.getD 0 0) (by decide +kernel), List.mem_of_getElem? (i := posS.getD 1 0) (by decide +kernel), List.mem_of_getElem? (i := posS.getD 2 0) (by decide +kernel), List.mem_of_getElem? (i := posS.getD 3 0) (by decide +kernel), List.mem_of_getElem? (i := posS.getD 4 0) (by decide +kernel)⟩
set_option maxRecDepth 100000 in
theorem posMt_ok : Cond.static Lib.Math.max.name ∈ lw_tbl ∧ Cond.code Lib.Math.max.name Lib.Math.max.code 2 (some .int) ∈ lw_tbl ∧ Cond.static Lib.Math.min.name ∈ lw_tbl ∧ Cond.code Lib.Math.min.name Lib.Math.min.code 2 (some .int) ∈ lw_tbl ∧ Cond.static Lib.Math.abs.name ∈ lw_tbl ∧ Cond.code Lib.Math.abs.name Lib.Math.abs.code 1 (some .int) ∈ lw_tbl ∧ Cond.initialized "java/lang/Math" ∈ lw_tbl :=
  ⟨List.mem_of_getElem? (i := posMt.getD 0 0) (by decide +kernel), List.mem_of_getElem? (i := posMt.getD 1 0) (by decide +kernel), List.mem_of_getElem? (i := posMt.getD 2 0) (by decide +kernel), List.mem_of_getElem? (i := posMt.getD 3 0) (by decide +kernel), List.mem_of_getElem? (i := posMt.getD 4 0) (by decide +kernel), List.mem_of_getElem? (i := posMt.getD 5 0) (by decide +kernel), List.mem_of_getElem? (i := posMt.getD 6 0) (by decide +kernel)⟩
set_option maxRecDepth 100000 in
theorem cl_in0 : ∀ w ∈ u_ws RX0 TX0 5, w ∈ lw_tbl := by decide +kernel
set_option maxRecDepth 100000 in
theorem cl_in1 : ∀ w ∈ u_ws RX1 TX1 4, w ∈ lw_tbl := by decide +kernel
set_option maxRecDepth 100000 in
theorem cl_in2 : ∀ w ∈ u_ws RX2 TX2 3, w ∈ lw_tbl := by decide +kernel
set_option maxRecDepth 100000 in
theorem cl_in3 : ∀ w ∈ u_ws RX3 TX3 7, w ∈ lw_tbl := by decide +kernel
set_option maxRecDepth 100000 in
theorem cl_in4 : ∀ w ∈ u_ws RX4 TX4 6, w ∈ lw_tbl := by decide +kernel
set_option maxRecDepth 100000 in
theorem cl_in5 : ∀ w ∈ u_ws RX5 TX5 13, w ∈ lw_tbl := by decide +kernel
set_option maxRecDepth 100000 in
theorem cl_in6 : ∀ w ∈ u_ws RX6 TX6 9, w ∈ lw_tbl := by decide +kernel
set_option maxRecDepth 100000 in
theorem cl_in7 : ∀ w ∈ u_ws RX7 TX7 30, w ∈ lw_tbl := by decide +kernel
def clP (ci : Nat) (q : vw_C) : Prop := (∀ k, k < q.2.2 → parseFieldDescriptor (q.2.1 k).2.2.1 = some (tyCl ci k)) ∧ (∀ a, a < q.2.2 → ∀ b, b < q.2.2 → a ≠ b → (q.2.1 a).2.1 ≠ (q.2.1 b).2.1)
set_option maxRecDepth 100000 in
theorem cl_p0 : clP 0 (RX0, TX0, 5) := ⟨by decide +kernel, by decide +kernel⟩
set_option maxRecDepth 100000 in
theorem cl_p1 : clP 1 (RX1, TX1, 4) := ⟨by decide +kernel, by decide +kernel⟩
set_option maxRecDepth 100000 in
theorem cl_p2 : clP 2 (RX2, TX2, 3) := ⟨by decide +kernel, by decide +kernel⟩
set_option maxRecDepth 100000 in
theorem cl_p3 : clP 3 (RX3, TX3, 7) := ⟨by decide +kernel, by decide +kernel⟩
set_option maxRecDepth 100000 in
theorem cl_p4 : clP 4 (RX4, TX4, 6) := ⟨by decide +kernel, by decide +kernel⟩
set_option maxRecDepth 100000 in
theorem cl_p5 : clP 5 (RX5, TX5, 13) := ⟨by decide +kernel, by decide +kernel⟩
set_option maxRecDepth 100000 in
theorem cl_p6 : clP 6 (RX6, TX6, 9) := ⟨by decide +kernel, by decide +kernel⟩
set_option maxRecDepth 100000 in
theorem cl_p7 : clP 7 (RX7, TX7, 30) := ⟨by decide +kernel, by decide +kernel⟩
theorem cl_facts : ∀ (ci : Nat) (q : vw_C), vwCl[ci]? = some q → (∀ w ∈ u_ws q.1 q.2.1 q.2.2, w ∈ lw_tbl) ∧ clP ci q
  | 0, _, h => by cases h; exact ⟨cl_in0, cl_p0⟩
  | 1, _, h => by cases h; exact ⟨cl_in1, cl_p1⟩
  | 2, _, h => by cases h; exact ⟨cl_in2, cl_p2⟩
  | 3, _, h => by cases h; exact ⟨cl_in3, cl_p3⟩
  | 4, _, h => by cases h; exact ⟨cl_in4, cl_p4⟩
  | 5, _, h => by cases h; exact ⟨cl_in5, cl_p5⟩
  | 6, _, h => by cases h; exact ⟨cl_in6, cl_p6⟩
  | 7, _, h => by cases h; exact ⟨cl_in7, cl_p7⟩
  | n + 8, _, h => by cases h
set_option maxRecDepth 100000 in
theorem tc_0 : Cond.code (mNm MX0_init) (mCd MX0_init) (mMx MX0_init) (mRt MX0_init) ∈ lw_tbl := List.mem_of_getElem? (i := 137) rfl
set_option maxRecDepth 100000 in
theorem tc_1 : Cond.code (mNm MX0_clear) (mCd MX0_clear) (mMx MX0_clear) (mRt MX0_clear) ∈ lw_tbl := List.mem_of_getElem? (i := 353) rfl
set_option maxRecDepth 100000 in
theorem tc_2 : Cond.code (mNm MX0_become) (mCd MX0_become) (mMx MX0_become) (mRt MX0_become) ∈ lw_tbl := List.mem_of_getElem? (i := 492) rfl
set_option maxRecDepth 100000 in
theorem tc_3 : Cond.code (mNm MX0_isWhole) (mCd MX0_isWhole) (mMx MX0_isWhole) (mRt MX0_isWhole) ∈ lw_tbl := List.mem_of_getElem? (i := 460) rfl
set_option maxRecDepth 100000 in
theorem tc_4 : Cond.code (mNm MX0_hasRoomFor) (mCd MX0_hasRoomFor) (mMx MX0_hasRoomFor) (mRt MX0_hasRoomFor) ∈ lw_tbl := List.mem_of_getElem? (i := 472) rfl
set_option maxRecDepth 100000 in
theorem tc_5 : Cond.code (mNm MX0_hasStrandsFor) (mCd MX0_hasStrandsFor) (mMx MX0_hasStrandsFor) (mRt MX0_hasStrandsFor) ∈ lw_tbl := List.mem_of_getElem? (i := 481) rfl
set_option maxRecDepth 100000 in
theorem tc_6 : Cond.code (mNm MX0_append) (mCd MX0_append) (mMx MX0_append) (mRt MX0_append) ∈ lw_tbl := List.mem_of_getElem? (i := 476) rfl
set_option maxRecDepth 100000 in
theorem tc_7 : Cond.code (mNm MX0_appendRange) (mCd MX0_appendRange) (mMx MX0_appendRange) (mRt MX0_appendRange) ∈ lw_tbl := List.mem_of_getElem? (i := 812) rfl
set_option maxRecDepth 100000 in
theorem tc_8 : Cond.code (mNm MX0_appendPatch) (mCd MX0_appendPatch) (mMx MX0_appendPatch) (mRt MX0_appendPatch) ∈ lw_tbl := List.mem_of_getElem? (i := 817) rfl
set_option maxRecDepth 100000 in
theorem tc_9 : Cond.code (mNm MX0_mostStrands) (mCd MX0_mostStrands) (mMx MX0_mostStrands) (mRt MX0_mostStrands) ∈ lw_tbl := List.mem_of_getElem? (i := 597) rfl
set_option maxRecDepth 100000 in
theorem tc_10 : Cond.code (mNm MX0_firstUnlike) (mCd MX0_firstUnlike) (mMx MX0_firstUnlike) (mRt MX0_firstUnlike) ∈ lw_tbl := List.mem_of_getElem? (i := 853) rfl
set_option maxRecDepth 100000 in
theorem tc_11 : Cond.code (mNm MX0_strandsAdded) (mCd MX0_strandsAdded) (mMx MX0_strandsAdded) (mRt MX0_strandsAdded) ∈ lw_tbl := List.mem_of_getElem? (i := 484) rfl
set_option maxRecDepth 100000 in
theorem tc_12 : Cond.code (mNm MX1_init) (mCd MX1_init) (mMx MX1_init) (mRt MX1_init) ∈ lw_tbl := List.mem_of_getElem? (i := 177) rfl
set_option maxRecDepth 100000 in
theorem tc_13 : Cond.code (mNm MX1_begin) (mCd MX1_begin) (mMx MX1_begin) (mRt MX1_begin) ∈ lw_tbl := List.mem_of_getElem? (i := 771) rfl
set_option maxRecDepth 100000 in
theorem tc_14 : Cond.code (mNm MX1_put) (mCd MX1_put) (mMx MX1_put) (mRt MX1_put) ∈ lw_tbl := List.mem_of_getElem? (i := 776) rfl
set_option maxRecDepth 100000 in
theorem tc_15 : Cond.code (mNm MX1_putThree) (mCd MX1_putThree) (mMx MX1_putThree) (mRt MX1_putThree) ∈ lw_tbl := List.mem_of_getElem? (i := 791) rfl
set_option maxRecDepth 100000 in
theorem tc_16 : Cond.code (mNm MX1_planMove) (mCd MX1_planMove) (mMx MX1_planMove) (mRt MX1_planMove) ∈ lw_tbl := List.mem_of_getElem? (i := 763) rfl
set_option maxRecDepth 100000 in
theorem tc_17 : Cond.code (mNm MX1_planSwap) (mCd MX1_planSwap) (mMx MX1_planSwap) (mRt MX1_planSwap) ∈ lw_tbl := List.mem_of_getElem? (i := 767) rfl
set_option maxRecDepth 100000 in
theorem tc_18 : Cond.code (mNm MX1_planSlide) (mCd MX1_planSlide) (mMx MX1_planSlide) (mRt MX1_planSlide) ∈ lw_tbl := List.mem_of_getElem? (i := 780) rfl
set_option maxRecDepth 100000 in
theorem tc_19 : Cond.code (mNm MX1_planUncurl) (mCd MX1_planUncurl) (mMx MX1_planUncurl) (mRt MX1_planUncurl) ∈ lw_tbl := List.mem_of_getElem? (i := 795) rfl
set_option maxRecDepth 100000 in
theorem tc_20 : Cond.code (mNm MX1_planPull) (mCd MX1_planPull) (mMx MX1_planPull) (mRt MX1_planPull) ∈ lw_tbl := List.mem_of_getElem? (i := 799) rfl
set_option maxRecDepth 100000 in
theorem tc_21 : Cond.code (mNm MX1_planStraighten) (mCd MX1_planStraighten) (mMx MX1_planStraighten) (mRt MX1_planStraighten) ∈ lw_tbl := List.mem_of_getElem? (i := 803) rfl
set_option maxRecDepth 100000 in
theorem tc_22 : Cond.code (mNm MX1_hasKinds) (mCd MX1_hasKinds) (mMx MX1_hasKinds) (mRt MX1_hasKinds) ∈ lw_tbl := List.mem_of_getElem? (i := 783) rfl
set_option maxRecDepth 100000 in
theorem tc_23 : Cond.code (mNm MX1_goesThereAndBack) (mCd MX1_goesThereAndBack) (mMx MX1_goesThereAndBack) (mRt MX1_goesThereAndBack) ∈ lw_tbl := List.mem_of_getElem? (i := 786) rfl
set_option maxRecDepth 100000 in
theorem tc_24 : Cond.code (mNm MX1_planAdd) (mCd MX1_planAdd) (mMx MX1_planAdd) (mRt MX1_planAdd) ∈ lw_tbl := List.mem_of_getElem? (i := 825) rfl
set_option maxRecDepth 100000 in
theorem tc_25 : Cond.code (mNm MX1_planPush) (mCd MX1_planPush) (mMx MX1_planPush) (mRt MX1_planPush) ∈ lw_tbl := List.mem_of_getElem? (i := 833) rfl
set_option maxRecDepth 100000 in
theorem tc_26 : Cond.code (mNm MX1_planBirthPush) (mCd MX1_planBirthPush) (mMx MX1_planBirthPush) (mRt MX1_planBirthPush) ∈ lw_tbl := List.mem_of_getElem? (i := 837) rfl
set_option maxRecDepth 100000 in
theorem tc_27 : Cond.code (mNm MX1_planDeathPush) (mCd MX1_planDeathPush) (mMx MX1_planDeathPush) (mRt MX1_planDeathPush) ∈ lw_tbl := List.mem_of_getElem? (i := 841) rfl
set_option maxRecDepth 100000 in
theorem tc_28 : Cond.code (mNm MX2_init) (mCd MX2_init) (mMx MX2_init) (mRt MX2_init) ∈ lw_tbl := List.mem_of_getElem? (i := 288) rfl
set_option maxRecDepth 100000 in
theorem tc_29 : Cond.code (mNm MX2_renew) (mCd MX2_renew) (mMx MX2_renew) (mRt MX2_renew) ∈ lw_tbl := List.mem_of_getElem? (i := 513) rfl
set_option maxRecDepth 100000 in
theorem tc_30 : Cond.code (mNm MX2_write) (mCd MX2_write) (mMx MX2_write) (mRt MX2_write) ∈ lw_tbl := List.mem_of_getElem? (i := 521) rfl
set_option maxRecDepth 100000 in
theorem tc_31 : Cond.code (mNm MX2_narrowed) (mCd MX2_narrowed) (mMx MX2_narrowed) (mRt MX2_narrowed) ∈ lw_tbl := List.mem_of_getElem? (i := 525) rfl
set_option maxRecDepth 100000 in
theorem tc_32 : Cond.code (mNm MX2_tell) (mCd MX2_tell) (mMx MX2_tell) (mRt MX2_tell) ∈ lw_tbl := List.mem_of_getElem? (i := 533) rfl
set_option maxRecDepth 100000 in
theorem tc_33 : Cond.code (mNm MX3_init) (mCd MX3_init) (mMx MX3_init) (mRt MX3_init) ∈ lw_tbl := List.mem_of_getElem? (i := 256) rfl
set_option maxRecDepth 100000 in
theorem tc_34 : Cond.code (mNm MX3_countAll) (mCd MX3_countAll) (mMx MX3_countAll) (mRt MX3_countAll) ∈ lw_tbl := List.mem_of_getElem? (i := 693) rfl
set_option maxRecDepth 100000 in
theorem tc_35 : Cond.code (mNm MX3_findFirst) (mCd MX3_findFirst) (mMx MX3_findFirst) (mRt MX3_findFirst) ∈ lw_tbl := List.mem_of_getElem? (i := 755) rfl
set_option maxRecDepth 100000 in
theorem tc_36 : Cond.code (mNm MX3_foundWith) (mCd MX3_foundWith) (mMx MX3_foundWith) (mRt MX3_foundWith) ∈ lw_tbl := List.mem_of_getElem? (i := 747) rfl
set_option maxRecDepth 100000 in
theorem tc_37 : Cond.code (mNm MX3_begin) (mCd MX3_begin) (mMx MX3_begin) (mRt MX3_begin) ∈ lw_tbl := List.mem_of_getElem? (i := 697) rfl
set_option maxRecDepth 100000 in
theorem tc_38 : Cond.code (mNm MX3_isOfSort) (mCd MX3_isOfSort) (mMx MX3_isOfSort) (mRt MX3_isOfSort) ∈ lw_tbl := List.mem_of_getElem? (i := 700) rfl
set_option maxRecDepth 100000 in
theorem tc_39 : Cond.code (mNm MX3_search) (mCd MX3_search) (mMx MX3_search) (mRt MX3_search) ∈ lw_tbl := List.mem_of_getElem? (i := 706) rfl
set_option maxRecDepth 100000 in
theorem tc_40 : Cond.code (mNm MX3_searchPaired) (mCd MX3_searchPaired) (mMx MX3_searchPaired) (mRt MX3_searchPaired) ∈ lw_tbl := List.mem_of_getElem? (i := 724) rfl
set_option maxRecDepth 100000 in
theorem tc_41 : Cond.code (mNm MX3_searchCross) (mCd MX3_searchCross) (mMx MX3_searchCross) (mRt MX3_searchCross) ∈ lw_tbl := List.mem_of_getElem? (i := 732) rfl
set_option maxRecDepth 100000 in
theorem tc_42 : Cond.code (mNm MX3_note) (mCd MX3_note) (mMx MX3_note) (mRt MX3_note) ∈ lw_tbl := List.mem_of_getElem? (i := 710) rfl
set_option maxRecDepth 100000 in
theorem tc_43 : Cond.code (mNm MX3_pairNew) (mCd MX3_pairNew) (mMx MX3_pairNew) (mRt MX3_pairNew) ∈ lw_tbl := List.mem_of_getElem? (i := 720) rfl
set_option maxRecDepth 100000 in
theorem tc_44 : Cond.code (mNm MX3_dropPair) (mCd MX3_dropPair) (mMx MX3_dropPair) (mRt MX3_dropPair) ∈ lw_tbl := List.mem_of_getElem? (i := 728) rfl
set_option maxRecDepth 100000 in
theorem tc_45 : Cond.code (mNm MX3_changePlaces) (mCd MX3_changePlaces) (mMx MX3_changePlaces) (mRt MX3_changePlaces) ∈ lw_tbl := List.mem_of_getElem? (i := 736) rfl
set_option maxRecDepth 100000 in
theorem tc_46 : Cond.code (mNm MX3_interlocked) (mCd MX3_interlocked) (mMx MX3_interlocked) (mRt MX3_interlocked) ∈ lw_tbl := List.mem_of_getElem? (i := 741) rfl
set_option maxRecDepth 100000 in
theorem tc_47 : Cond.code (mNm MX4_init) (mCd MX4_init) (mMx MX4_init) (mRt MX4_init) ∈ lw_tbl := List.mem_of_getElem? (i := 106) rfl
set_option maxRecDepth 100000 in
theorem tc_48 : Cond.code (mNm MX4_take) (mCd MX4_take) (mMx MX4_take) (mRt MX4_take) ∈ lw_tbl := List.mem_of_getElem? (i := 337) rfl
set_option maxRecDepth 100000 in
theorem tc_49 : Cond.code (mNm MX4_tell) (mCd MX4_tell) (mMx MX4_tell) (mRt MX4_tell) ∈ lw_tbl := List.mem_of_getElem? (i := 349) rfl
set_option maxRecDepth 100000 in
theorem tc_50 : Cond.code (mNm MX4_tellEvent) (mCd MX4_tellEvent) (mMx MX4_tellEvent) (mRt MX4_tellEvent) ∈ lw_tbl := List.mem_of_getElem? (i := 464) rfl
set_option maxRecDepth 100000 in
theorem tc_51 : Cond.code (mNm MX4_misplaced) (mCd MX4_misplaced) (mMx MX4_misplaced) (mRt MX4_misplaced) ∈ lw_tbl := List.mem_of_getElem? (i := 468) rfl
set_option maxRecDepth 100000 in
theorem tc_52 : Cond.code (mNm MX4_readToken) (mCd MX4_readToken) (mMx MX4_readToken) (mRt MX4_readToken) ∈ lw_tbl := List.mem_of_getElem? (i := 357) rfl
set_option maxRecDepth 100000 in
theorem tc_53 : Cond.code (mNm MX4_readLetter) (mCd MX4_readLetter) (mMx MX4_readLetter) (mRt MX4_readLetter) ∈ lw_tbl := List.mem_of_getElem? (i := 369) rfl
set_option maxRecDepth 100000 in
theorem tc_54 : Cond.code (mNm MX4_readNumber) (mCd MX4_readNumber) (mMx MX4_readNumber) (mRt MX4_readNumber) ∈ lw_tbl := List.mem_of_getElem? (i := 365) rfl
set_option maxRecDepth 100000 in
theorem tc_55 : Cond.code (mNm MX4_isFigure) (mCd MX4_isFigure) (mMx MX4_isFigure) (mRt MX4_isFigure) ∈ lw_tbl := List.mem_of_getElem? (i := 361) rfl
set_option maxRecDepth 100000 in
theorem tc_56 : Cond.code (mNm MX5_init) (mCd MX5_init) (mMx MX5_init) (mRt MX5_init) ∈ lw_tbl := List.mem_of_getElem? (i := 200) rfl
set_option maxRecDepth 100000 in
theorem tc_57 : Cond.code (mNm MX5_trace) (mCd MX5_trace) (mMx MX5_trace) (mRt MX5_trace) ∈ lw_tbl := List.mem_of_getElem? (i := 568) rfl
set_option maxRecDepth 100000 in
theorem tc_58 : Cond.code (mNm MX5_layArcs) (mCd MX5_layArcs) (mMx MX5_layArcs) (mRt MX5_layArcs) ∈ lw_tbl := List.mem_of_getElem? (i := 572) rfl
set_option maxRecDepth 100000 in
theorem tc_59 : Cond.code (mNm MX5_beginArcs) (mCd MX5_beginArcs) (mMx MX5_beginArcs) (mRt MX5_beginArcs) ∈ lw_tbl := List.mem_of_getElem? (i := 577) rfl
set_option maxRecDepth 100000 in
theorem tc_60 : Cond.code (mNm MX5_endArcs) (mCd MX5_endArcs) (mMx MX5_endArcs) (mRt MX5_endArcs) ∈ lw_tbl := List.mem_of_getElem? (i := 581) rfl
set_option maxRecDepth 100000 in
theorem tc_61 : Cond.code (mNm MX5_walk) (mCd MX5_walk) (mMx MX5_walk) (mRt MX5_walk) ∈ lw_tbl := List.mem_of_getElem? (i := 585) rfl
set_option maxRecDepth 100000 in
theorem tc_62 : Cond.code (mNm MX5_mark) (mCd MX5_mark) (mMx MX5_mark) (mRt MX5_mark) ∈ lw_tbl := List.mem_of_getElem? (i := 589) rfl
set_option maxRecDepth 100000 in
theorem tc_63 : Cond.code (mNm MX5_turnCorner) (mCd MX5_turnCorner) (mMx MX5_turnCorner) (mRt MX5_turnCorner) ∈ lw_tbl := List.mem_of_getElem? (i := 593) rfl
set_option maxRecDepth 100000 in
theorem tc_64 : Cond.code (mNm MX5_isPiece) (mCd MX5_isPiece) (mMx MX5_isPiece) (mRt MX5_isPiece) ∈ lw_tbl := List.mem_of_getElem? (i := 630) rfl
set_option maxRecDepth 100000 in
theorem tc_65 : Cond.code (mNm MX5_pieceAt) (mCd MX5_pieceAt) (mMx MX5_pieceAt) (mRt MX5_pieceAt) ∈ lw_tbl := List.mem_of_getElem? (i := 622) rfl
set_option maxRecDepth 100000 in
theorem tc_66 : Cond.code (mNm MX5_lowerArc) (mCd MX5_lowerArc) (mMx MX5_lowerArc) (mRt MX5_lowerArc) ∈ lw_tbl := List.mem_of_getElem? (i := 610) rfl
set_option maxRecDepth 100000 in
theorem tc_67 : Cond.code (mNm MX5_upperArc) (mCd MX5_upperArc) (mMx MX5_upperArc) (mRt MX5_upperArc) ∈ lw_tbl := List.mem_of_getElem? (i := 614) rfl
set_option maxRecDepth 100000 in
theorem tc_68 : Cond.code (mNm MX5_isPlus) (mCd MX5_isPlus) (mMx MX5_isPlus) (mRt MX5_isPlus) ∈ lw_tbl := List.mem_of_getElem? (i := 606) rfl
set_option maxRecDepth 100000 in
theorem tc_69 : Cond.code (mNm MX5_plusCrosses) (mCd MX5_plusCrosses) (mMx MX5_plusCrosses) (mRt MX5_plusCrosses) ∈ lw_tbl := List.mem_of_getElem? (i := 602) rfl
set_option maxRecDepth 100000 in
theorem tc_70 : Cond.code (mNm MX5_writhe) (mCd MX5_writhe) (mMx MX5_writhe) (mRt MX5_writhe) ∈ lw_tbl := List.mem_of_getElem? (i := 634) rfl
set_option maxRecDepth 100000 in
theorem tc_71 : Cond.code (mNm MX5_linking) (mCd MX5_linking) (mMx MX5_linking) (mRt MX5_linking) ∈ lw_tbl := List.mem_of_getElem? (i := 654) rfl
set_option maxRecDepth 100000 in
theorem tc_72 : Cond.code (mNm MX5_signSum) (mCd MX5_signSum) (mMx MX5_signSum) (mRt MX5_signSum) ∈ lw_tbl := List.mem_of_getElem? (i := 638) rfl
set_option maxRecDepth 100000 in
theorem tc_73 : Cond.code (mNm MX5_deaths) (mCd MX5_deaths) (mMx MX5_deaths) (mRt MX5_deaths) ∈ lw_tbl := List.mem_of_getElem? (i := 642) rfl
set_option maxRecDepth 100000 in
theorem tc_74 : Cond.code (mNm MX5_turn) (mCd MX5_turn) (mMx MX5_turn) (mRt MX5_turn) ∈ lw_tbl := List.mem_of_getElem? (i := 646) rfl
set_option maxRecDepth 100000 in
theorem tc_75 : Cond.code (mNm MX5_levelStep) (mCd MX5_levelStep) (mMx MX5_levelStep) (mRt MX5_levelStep) ∈ lw_tbl := List.mem_of_getElem? (i := 671) rfl
set_option maxRecDepth 100000 in
theorem tc_76 : Cond.code (mNm MX6_init) (mCd MX6_init) (mMx MX6_init) (mRt MX6_init) ∈ lw_tbl := List.mem_of_getElem? (i := 98) rfl
set_option maxRecDepth 100000 in
theorem tc_77 : Cond.code (mNm MX6_feed) (mCd MX6_feed) (mMx MX6_feed) (mRt MX6_feed) ∈ lw_tbl := List.mem_of_getElem? (i := 333) rfl
set_option maxRecDepth 100000 in
theorem tc_78 : Cond.code (mNm MX6_end) (mCd MX6_end) (mMx MX6_end) (mRt MX6_end) ∈ lw_tbl := List.mem_of_getElem? (i := 341) rfl
set_option maxRecDepth 100000 in
theorem tc_79 : Cond.code (mNm MX6_front) (mCd MX6_front) (mMx MX6_front) (mRt MX6_front) ∈ lw_tbl := List.mem_of_getElem? (i := 345) rfl
set_option maxRecDepth 100000 in
theorem tc_80 : Cond.code (mNm MX6_fault) (mCd MX6_fault) (mMx MX6_fault) (mRt MX6_fault) ∈ lw_tbl := List.mem_of_getElem? (i := 499) rfl
set_option maxRecDepth 100000 in
theorem tc_81 : Cond.code (mNm MX6_sheet) (mCd MX6_sheet) (mMx MX6_sheet) (mRt MX6_sheet) ∈ lw_tbl := List.mem_of_getElem? (i := 503) rfl
set_option maxRecDepth 100000 in
theorem tc_82 : Cond.code (mNm MX6_lay) (mCd MX6_lay) (mMx MX6_lay) (mRt MX6_lay) ∈ lw_tbl := List.mem_of_getElem? (i := 517) rfl
set_option maxRecDepth 100000 in
theorem tc_83 : Cond.code (mNm MX6_draw) (mCd MX6_draw) (mMx MX6_draw) (mRt MX6_draw) ∈ lw_tbl := List.mem_of_getElem? (i := 529) rfl
set_option maxRecDepth 100000 in
theorem tc_84 : Cond.code (mNm MX6_copy) (mCd MX6_copy) (mMx MX6_copy) (mRt MX6_copy) ∈ lw_tbl := List.mem_of_getElem? (i := 540) rfl
set_option maxRecDepth 100000 in
theorem tc_85 : Cond.code (mNm MX6_drop) (mCd MX6_drop) (mMx MX6_drop) (mRt MX6_drop) ∈ lw_tbl := List.mem_of_getElem? (i := 548) rfl
set_option maxRecDepth 100000 in
theorem tc_86 : Cond.code (mNm MX6_event) (mCd MX6_event) (mMx MX6_event) (mRt MX6_event) ∈ lw_tbl := List.mem_of_getElem? (i := 552) rfl
set_option maxRecDepth 100000 in
theorem tc_87 : Cond.code (mNm MX6_about) (mCd MX6_about) (mMx MX6_about) (mRt MX6_about) ∈ lw_tbl := List.mem_of_getElem? (i := 560) rfl
set_option maxRecDepth 100000 in
theorem tc_88 : Cond.code (mNm MX6_piece) (mCd MX6_piece) (mMx MX6_piece) (mRt MX6_piece) ∈ lw_tbl := List.mem_of_getElem? (i := 618) rfl
set_option maxRecDepth 100000 in
theorem tc_89 : Cond.code (mNm MX6_number) (mCd MX6_number) (mMx MX6_number) (mRt MX6_number) ∈ lw_tbl := List.mem_of_getElem? (i := 626) rfl
set_option maxRecDepth 100000 in
theorem tc_90 : Cond.code (mNm MX6_link) (mCd MX6_link) (mMx MX6_link) (mRt MX6_link) ∈ lw_tbl := List.mem_of_getElem? (i := 650) rfl
set_option maxRecDepth 100000 in
theorem tc_91 : Cond.code (mNm MX6_sign) (mCd MX6_sign) (mMx MX6_sign) (mRt MX6_sign) ∈ lw_tbl := List.mem_of_getElem? (i := 658) rfl
set_option maxRecDepth 100000 in
theorem tc_92 : Cond.code (mNm MX6_degree) (mCd MX6_degree) (mMx MX6_degree) (mRt MX6_degree) ∈ lw_tbl := List.mem_of_getElem? (i := 667) rfl
set_option maxRecDepth 100000 in
theorem tc_93 : Cond.code (mNm MX6_rulings) (mCd MX6_rulings) (mMx MX6_rulings) (mRt MX6_rulings) ∈ lw_tbl := List.mem_of_getElem? (i := 682) rfl
set_option maxRecDepth 100000 in
theorem tc_94 : Cond.code (mNm MX6_first) (mCd MX6_first) (mMx MX6_first) (mRt MX6_first) ∈ lw_tbl := List.mem_of_getElem? (i := 751) rfl
set_option maxRecDepth 100000 in
theorem tc_95 : Cond.code (mNm MX6_move) (mCd MX6_move) (mMx MX6_move) (mRt MX6_move) ∈ lw_tbl := List.mem_of_getElem? (i := 759) rfl
set_option maxRecDepth 100000 in
theorem tc_96 : Cond.code (mNm MX6_add) (mCd MX6_add) (mMx MX6_add) (mRt MX6_add) ∈ lw_tbl := List.mem_of_getElem? (i := 821) rfl
set_option maxRecDepth 100000 in
theorem tc_97 : Cond.code (mNm MX6_push) (mCd MX6_push) (mMx MX6_push) (mRt MX6_push) ∈ lw_tbl := List.mem_of_getElem? (i := 829) rfl
set_option maxRecDepth 100000 in
theorem tc_98 : Cond.code (mNm MX6_join) (mCd MX6_join) (mMx MX6_join) (mRt MX6_join) ∈ lw_tbl := List.mem_of_getElem? (i := 845) rfl
set_option maxRecDepth 100000 in
theorem tc_99 : Cond.code (mNm MX6_unlike) (mCd MX6_unlike) (mMx MX6_unlike) (mRt MX6_unlike) ∈ lw_tbl := List.mem_of_getElem? (i := 849) rfl
set_option maxRecDepth 100000 in
theorem tc_100 : Cond.code (mNm MX6_count) (mCd MX6_count) (mMx MX6_count) (mRt MX6_count) ∈ lw_tbl := List.mem_of_getElem? (i := 858) rfl
set_option maxRecDepth 100000 in
theorem tc_101 : Cond.code (mNm MX6_isFront) (mCd MX6_isFront) (mMx MX6_isFront) (mRt MX6_isFront) ∈ lw_tbl := List.mem_of_getElem? (i := 544) rfl
set_option maxRecDepth 100000 in
theorem tc_102 : Cond.code (mNm MX6_isEvent) (mCd MX6_isEvent) (mMx MX6_isEvent) (mRt MX6_isEvent) ∈ lw_tbl := List.mem_of_getElem? (i := 556) rfl
set_option maxRecDepth 100000 in
theorem tc_103 : Cond.code (mNm MX6_isCross) (mCd MX6_isCross) (mMx MX6_isCross) (mRt MX6_isCross) ∈ lw_tbl := List.mem_of_getElem? (i := 662) rfl
set_option maxRecDepth 100000 in
theorem tc_104 : Cond.code (mNm MX6_isSheet) (mCd MX6_isSheet) (mMx MX6_isSheet) (mRt MX6_isSheet) ∈ lw_tbl := List.mem_of_getElem? (i := 506) rfl
set_option maxRecDepth 100000 in
theorem tc_105 : Cond.code (mNm MX6_isLane) (mCd MX6_isLane) (mMx MX6_isLane) (mRt MX6_isLane) ∈ lw_tbl := List.mem_of_getElem? (i := 509) rfl
set_option maxRecDepth 100000 in
theorem tc_106 : Cond.code (mNm MX6_isSort) (mCd MX6_isSort) (mMx MX6_isSort) (mRt MX6_isSort) ∈ lw_tbl := List.mem_of_getElem? (i := 685) rfl
set_option maxRecDepth 100000 in
theorem tc_107 : Cond.code (mNm MX6_hasSort) (mCd MX6_hasSort) (mMx MX6_hasSort) (mRt MX6_hasSort) ∈ lw_tbl := List.mem_of_getElem? (i := 689) rfl
set_option maxRecDepth 100000 in
theorem tc_108 : Cond.code (mNm MX6_traced) (mCd MX6_traced) (mMx MX6_traced) (mRt MX6_traced) ∈ lw_tbl := List.mem_of_getElem? (i := 564) rfl
set_option maxRecDepth 100000 in
theorem tc_109 : Cond.code (mNm MX6_keepDraft) (mCd MX6_keepDraft) (mMx MX6_keepDraft) (mRt MX6_keepDraft) ∈ lw_tbl := List.mem_of_getElem? (i := 488) rfl
set_option maxRecDepth 100000 in
theorem tc_110 : Cond.code (mNm MX6_applyPatch) (mCd MX6_applyPatch) (mMx MX6_applyPatch) (mRt MX6_applyPatch) ∈ lw_tbl := List.mem_of_getElem? (i := 807) rfl
set_option maxRecDepth 100000 in
theorem tc_111 : Cond.code (mNm MX7_init) (mCd MX7_init) (mMx MX7_init) (mRt MX7_init) ∈ lw_tbl := List.mem_of_getElem? (i := 863) rfl
set_option maxRecDepth 100000 in
theorem tc_112 : Cond.code (mNm MX7_in) (mCd MX7_in) (mMx MX7_in) (mRt MX7_in) ∈ lw_tbl := List.mem_of_getElem? (i := 966) rfl
set_option maxRecDepth 100000 in
theorem tc_113 : Cond.code (mNm MX7_is) (mCd MX7_is) (mMx MX7_is) (mRt MX7_is) ∈ lw_tbl := List.mem_of_getElem? (i := 1042) rfl
set_option maxRecDepth 100000 in
theorem tc_114 : Cond.code (mNm MX7_isEvent) (mCd MX7_isEvent) (mMx MX7_isEvent) (mRt MX7_isEvent) ∈ lw_tbl := List.mem_of_getElem? (i := 1058) rfl
set_option maxRecDepth 100000 in
theorem tc_115 : Cond.code (mNm MX7_put) (mCd MX7_put) (mMx MX7_put) (mRt MX7_put) ∈ lw_tbl := List.mem_of_getElem? (i := 1004) rfl
set_option maxRecDepth 100000 in
theorem tc_116 : Cond.code (mNm MX7_putOf) (mCd MX7_putOf) (mMx MX7_putOf) (mRt MX7_putOf) ∈ lw_tbl := List.mem_of_getElem? (i := 1046) rfl
set_option maxRecDepth 100000 in
theorem tc_117 : Cond.code (mNm MX7_store) (mCd MX7_store) (mMx MX7_store) (mRt MX7_store) ∈ lw_tbl := List.mem_of_getElem? (i := 1015) rfl
set_option maxRecDepth 100000 in
theorem tc_118 : Cond.code (mNm MX7_added) (mCd MX7_added) (mMx MX7_added) (mRt MX7_added) ∈ lw_tbl := List.mem_of_getElem? (i := 1011) rfl
set_option maxRecDepth 100000 in
theorem tc_119 : Cond.code (mNm MX7_adds) (mCd MX7_adds) (mMx MX7_adds) (mRt MX7_adds) ∈ lw_tbl := List.mem_of_getElem? (i := 1007) rfl
set_option maxRecDepth 100000 in
theorem tc_120 : Cond.code (mNm MX7_ahead) (mCd MX7_ahead) (mMx MX7_ahead) (mRt MX7_ahead) ∈ lw_tbl := List.mem_of_getElem? (i := 1062) rfl
set_option maxRecDepth 100000 in
theorem tc_121 : Cond.code (mNm MX7_crossesOf) (mCd MX7_crossesOf) (mMx MX7_crossesOf) (mRt MX7_crossesOf) ∈ lw_tbl := List.mem_of_getElem? (i := 1083) rfl
set_option maxRecDepth 100000 in
theorem tc_122 : Cond.code (mNm MX7_feed) (mCd MX7_feed) (mMx MX7_feed) (mRt MX7_feed) ∈ lw_tbl := List.mem_of_getElem? (i := 959) rfl
set_option maxRecDepth 100000 in
theorem tc_123 : Cond.code (mNm MX7_end) (mCd MX7_end) (mMx MX7_end) (mRt MX7_end) ∈ lw_tbl := List.mem_of_getElem? (i := 963) rfl
set_option maxRecDepth 100000 in
theorem tc_124 : Cond.code (mNm MX7_byteAt) (mCd MX7_byteAt) (mMx MX7_byteAt) (mRt MX7_byteAt) ∈ lw_tbl := List.mem_of_getElem? (i := 982) rfl
set_option maxRecDepth 100000 in
theorem tc_125 : Cond.code (mNm MX7_fails) (mCd MX7_fails) (mMx MX7_fails) (mRt MX7_fails) ∈ lw_tbl := List.mem_of_getElem? (i := 988) rfl
set_option maxRecDepth 100000 in
theorem tc_126 : Cond.code (mNm MX7_next) (mCd MX7_next) (mMx MX7_next) (mRt MX7_next) ∈ lw_tbl := List.mem_of_getElem? (i := 978) rfl
set_option maxRecDepth 100000 in
theorem tc_127 : Cond.code (mNm MX7_isTooMuch) (mCd MX7_isTooMuch) (mMx MX7_isTooMuch) (mRt MX7_isTooMuch) ∈ lw_tbl := List.mem_of_getElem? (i := 992) rfl
set_option maxRecDepth 100000 in
theorem tc_128 : Cond.code (mNm MX7_hasPlace) (mCd MX7_hasPlace) (mMx MX7_hasPlace) (mRt MX7_hasPlace) ∈ lw_tbl := List.mem_of_getElem? (i := 996) rfl
set_option maxRecDepth 100000 in
theorem tc_129 : Cond.code (mNm MX7_comes) (mCd MX7_comes) (mMx MX7_comes) (mRt MX7_comes) ∈ lw_tbl := List.mem_of_getElem? (i := 1000) rfl
set_option maxRecDepth 100000 in
theorem tc_130 : Cond.code (mNm MX7_begin) (mCd MX7_begin) (mMx MX7_begin) (mRt MX7_begin) ∈ lw_tbl := List.mem_of_getElem? (i := 974) rfl
set_option maxRecDepth 100000 in
theorem tc_131 : Cond.code (mNm MX7_front) (mCd MX7_front) (mMx MX7_front) (mRt MX7_front) ∈ lw_tbl := List.mem_of_getElem? (i := 970) rfl
set_option maxRecDepth 100000 in
theorem tc_132 : Cond.code (mNm MX7_fault) (mCd MX7_fault) (mMx MX7_fault) (mRt MX7_fault) ∈ lw_tbl := List.mem_of_getElem? (i := 1019) rfl
set_option maxRecDepth 100000 in
theorem tc_133 : Cond.code (mNm MX7_sheet) (mCd MX7_sheet) (mMx MX7_sheet) (mRt MX7_sheet) ∈ lw_tbl := List.mem_of_getElem? (i := 1023) rfl
set_option maxRecDepth 100000 in
theorem tc_134 : Cond.code (mNm MX7_lay) (mCd MX7_lay) (mMx MX7_lay) (mRt MX7_lay) ∈ lw_tbl := List.mem_of_getElem? (i := 1029) rfl
set_option maxRecDepth 100000 in
theorem tc_135 : Cond.code (mNm MX7_draw) (mCd MX7_draw) (mMx MX7_draw) (mRt MX7_draw) ∈ lw_tbl := List.mem_of_getElem? (i := 1033) rfl
set_option maxRecDepth 100000 in
theorem tc_136 : Cond.code (mNm MX7_copy) (mCd MX7_copy) (mMx MX7_copy) (mRt MX7_copy) ∈ lw_tbl := List.mem_of_getElem? (i := 1038) rfl
set_option maxRecDepth 100000 in
theorem tc_137 : Cond.code (mNm MX7_drop) (mCd MX7_drop) (mMx MX7_drop) (mRt MX7_drop) ∈ lw_tbl := List.mem_of_getElem? (i := 1050) rfl
set_option maxRecDepth 100000 in
theorem tc_138 : Cond.code (mNm MX7_event) (mCd MX7_event) (mMx MX7_event) (mRt MX7_event) ∈ lw_tbl := List.mem_of_getElem? (i := 1054) rfl
set_option maxRecDepth 100000 in
theorem tc_139 : Cond.code (mNm MX7_goAlong) (mCd MX7_goAlong) (mMx MX7_goAlong) (mRt MX7_goAlong) ∈ lw_tbl := List.mem_of_getElem? (i := 1071) rfl
set_option maxRecDepth 100000 in
theorem tc_140 : Cond.code (mNm MX7_goOne) (mCd MX7_goOne) (mMx MX7_goOne) (mRt MX7_goOne) ∈ lw_tbl := List.mem_of_getElem? (i := 1075) rfl
set_option maxRecDepth 100000 in
theorem tc_141 : Cond.code (mNm MX7_isPlus) (mCd MX7_isPlus) (mMx MX7_isPlus) (mRt MX7_isPlus) ∈ lw_tbl := List.mem_of_getElem? (i := 1079) rfl
set_option maxRecDepth 100000 in
theorem tc_142 : Cond.code (mNm MX7_about) (mCd MX7_about) (mMx MX7_about) (mRt MX7_about) ∈ lw_tbl := List.mem_of_getElem? (i := 1066) rfl
set_option maxRecDepth 100000 in
theorem tc_143 : Cond.code (mNm MX7_piece) (mCd MX7_piece) (mMx MX7_piece) (mRt MX7_piece) ∈ lw_tbl := List.mem_of_getElem? (i := 1087) rfl
set_option maxRecDepth 100000 in
theorem tc_144 : Cond.code (mNm MX7_signed) (mCd MX7_signed) (mMx MX7_signed) (mRt MX7_signed) ∈ lw_tbl := List.mem_of_getElem? (i := 1096) rfl
set_option maxRecDepth 100000 in
theorem tc_145 : Cond.code (mNm MX7_number) (mCd MX7_number) (mMx MX7_number) (mRt MX7_number) ∈ lw_tbl := List.mem_of_getElem? (i := 1091) rfl
set_option maxRecDepth 100000 in
theorem tc_146 : Cond.code (mNm MX7_link) (mCd MX7_link) (mMx MX7_link) (mRt MX7_link) ∈ lw_tbl := List.mem_of_getElem? (i := 1100) rfl
set_option maxRecDepth 100000 in
theorem tc_147 : Cond.code (mNm MX7_isCross) (mCd MX7_isCross) (mMx MX7_isCross) (mRt MX7_isCross) ∈ lw_tbl := List.mem_of_getElem? (i := 1108) rfl
set_option maxRecDepth 100000 in
theorem tc_148 : Cond.code (mNm MX7_sign) (mCd MX7_sign) (mMx MX7_sign) (mRt MX7_sign) ∈ lw_tbl := List.mem_of_getElem? (i := 1104) rfl
set_option maxRecDepth 100000 in
theorem tc_149 : Cond.code (mNm MX7_degreeOf) (mCd MX7_degreeOf) (mMx MX7_degreeOf) (mRt MX7_degreeOf) ∈ lw_tbl := List.mem_of_getElem? (i := 1116) rfl
set_option maxRecDepth 100000 in
theorem tc_150 : Cond.code (mNm MX7_degree) (mCd MX7_degree) (mMx MX7_degree) (mRt MX7_degree) ∈ lw_tbl := List.mem_of_getElem? (i := 1112) rfl
set_option maxRecDepth 100000 in
theorem tc_151 : Cond.code (mNm MX7_layMay) (mCd MX7_layMay) (mMx MX7_layMay) (mRt MX7_layMay) ∈ lw_tbl := List.mem_of_getElem? (i := 1124) rfl
set_option maxRecDepth 100000 in
theorem tc_152 : Cond.code (mNm MX7_isMixed) (mCd MX7_isMixed) (mMx MX7_isMixed) (mRt MX7_isMixed) ∈ lw_tbl := List.mem_of_getElem? (i := 1143) rfl
set_option maxRecDepth 100000 in
theorem tc_153 : Cond.code (mNm MX7_crossed) (mCd MX7_crossed) (mMx MX7_crossed) (mRt MX7_crossed) ∈ lw_tbl := List.mem_of_getElem? (i := 1140) rfl
set_option maxRecDepth 100000 in
theorem tc_154 : Cond.code (mNm MX7_born) (mCd MX7_born) (mMx MX7_born) (mRt MX7_born) ∈ lw_tbl := List.mem_of_getElem? (i := 1132) rfl
set_option maxRecDepth 100000 in
theorem tc_155 : Cond.code (mNm MX7_dies) (mCd MX7_dies) (mMx MX7_dies) (mRt MX7_dies) ∈ lw_tbl := List.mem_of_getElem? (i := 1136) rfl
set_option maxRecDepth 100000 in
theorem tc_156 : Cond.code (mNm MX7_ruled) (mCd MX7_ruled) (mMx MX7_ruled) (mRt MX7_ruled) ∈ lw_tbl := List.mem_of_getElem? (i := 1128) rfl
set_option maxRecDepth 100000 in
theorem tc_157 : Cond.code (mNm MX7_rulings) (mCd MX7_rulings) (mMx MX7_rulings) (mRt MX7_rulings) ∈ lw_tbl := List.mem_of_getElem? (i := 1120) rfl
set_option maxRecDepth 100000 in
theorem tc_158 : Cond.code (mNm MX7_first) (mCd MX7_first) (mMx MX7_first) (mRt MX7_first) ∈ lw_tbl := List.mem_of_getElem? (i := 1147) rfl
set_option maxRecDepth 100000 in
theorem tc_159 : Cond.code (mNm MX7_kindAt) (mCd MX7_kindAt) (mMx MX7_kindAt) (mRt MX7_kindAt) ∈ lw_tbl := List.mem_of_getElem? (i := 1159) rfl
set_option maxRecDepth 100000 in
theorem tc_160 : Cond.code (mNm MX7_numberAt) (mCd MX7_numberAt) (mMx MX7_numberAt) (mRt MX7_numberAt) ∈ lw_tbl := List.mem_of_getElem? (i := 1163) rfl
set_option maxRecDepth 100000 in
theorem tc_161 : Cond.code (mNm MX7_stands) (mCd MX7_stands) (mMx MX7_stands) (mRt MX7_stands) ∈ lw_tbl := List.mem_of_getElem? (i := 1175) rfl
set_option maxRecDepth 100000 in
theorem tc_162 : Cond.code (mNm MX7_rest) (mCd MX7_rest) (mMx MX7_rest) (mRt MX7_rest) ∈ lw_tbl := List.mem_of_getElem? (i := 1167) rfl
set_option maxRecDepth 100000 in
theorem tc_163 : Cond.code (mNm MX7_swap) (mCd MX7_swap) (mMx MX7_swap) (mRt MX7_swap) ∈ lw_tbl := List.mem_of_getElem? (i := 1155) rfl
set_option maxRecDepth 100000 in
theorem tc_164 : Cond.code (mNm MX7_slide) (mCd MX7_slide) (mMx MX7_slide) (mRt MX7_slide) ∈ lw_tbl := List.mem_of_getElem? (i := 1171) rfl
set_option maxRecDepth 100000 in
theorem tc_165 : Cond.code (mNm MX7_uncurl) (mCd MX7_uncurl) (mMx MX7_uncurl) (mRt MX7_uncurl) ∈ lw_tbl := List.mem_of_getElem? (i := 1179) rfl
set_option maxRecDepth 100000 in
theorem tc_166 : Cond.code (mNm MX7_pull) (mCd MX7_pull) (mMx MX7_pull) (mRt MX7_pull) ∈ lw_tbl := List.mem_of_getElem? (i := 1183) rfl
set_option maxRecDepth 100000 in
theorem tc_167 : Cond.code (mNm MX7_straighten) (mCd MX7_straighten) (mMx MX7_straighten) (mRt MX7_straighten) ∈ lw_tbl := List.mem_of_getElem? (i := 1187) rfl
set_option maxRecDepth 100000 in
theorem tc_168 : Cond.code (mNm MX7_move) (mCd MX7_move) (mMx MX7_move) (mRt MX7_move) ∈ lw_tbl := List.mem_of_getElem? (i := 1151) rfl
set_option maxRecDepth 100000 in
theorem tc_169 : Cond.code (mNm MX7_add) (mCd MX7_add) (mMx MX7_add) (mRt MX7_add) ∈ lw_tbl := List.mem_of_getElem? (i := 1191) rfl
set_option maxRecDepth 100000 in
theorem tc_170 : Cond.code (mNm MX7_push) (mCd MX7_push) (mMx MX7_push) (mRt MX7_push) ∈ lw_tbl := List.mem_of_getElem? (i := 1195) rfl
set_option maxRecDepth 100000 in
theorem tc_171 : Cond.code (mNm MX7_join) (mCd MX7_join) (mMx MX7_join) (mRt MX7_join) ∈ lw_tbl := List.mem_of_getElem? (i := 1199) rfl
set_option maxRecDepth 100000 in
theorem tc_172 : Cond.code (mNm MX7_unlike) (mCd MX7_unlike) (mMx MX7_unlike) (mRt MX7_unlike) ∈ lw_tbl := List.mem_of_getElem? (i := 1203) rfl
set_option maxRecDepth 100000 in
theorem tc_173 : Cond.code (mNm MX7_count) (mCd MX7_count) (mMx MX7_count) (mRt MX7_count) ∈ lw_tbl := List.mem_of_getElem? (i := 1207) rfl
set_option maxRecDepth 100000 in
theorem tc_175 : Cond.code (mNm MJ6_bitCount_0f7a4) (mCd MJ6_bitCount_0f7a4) (mMx MJ6_bitCount_0f7a4) (mRt MJ6_bitCount_0f7a4) ∈ lw_tbl := List.mem_of_getElem? (i := 713) rfl
set_option maxRecDepth 100000 in
theorem tc_176 : Cond.code (mNm MJ9_floorMod_7cf53) (mCd MJ9_floorMod_7cf53) (mMx MJ9_floorMod_7cf53) (mRt MJ9_floorMod_7cf53) ∈ lw_tbl := List.mem_of_getElem? (i := 678) rfl
set_option maxRecDepth 100000 in
theorem tc_177 : Cond.code (mNm MJ0_length_8abf5) (mCd MJ0_length_8abf5) (mMx MJ0_length_8abf5) (mRt MJ0_length_8abf5) ∈ lw_tbl := List.mem_of_getElem? (i := 388) rfl
set_option maxRecDepth 100000 in
theorem tc_178 : Cond.code (mNm MJ0_indexOf_0f7a4) (mCd MJ0_indexOf_0f7a4) (mMx MJ0_indexOf_0f7a4) (mRt MJ0_indexOf_0f7a4) ∈ lw_tbl := List.mem_of_getElem? (i := 374) rfl
set_option maxRecDepth 100000 in
theorem tc_179 : Cond.code (mNm MJ0_indexOf_7cf53) (mCd MJ0_indexOf_7cf53) (mMx MJ0_indexOf_7cf53) (mRt MJ0_indexOf_7cf53) ∈ lw_tbl := List.mem_of_getElem? (i := 378) rfl
set_option maxRecDepth 100000 in
theorem tc_180 : Cond.code (mNm MJ0_coder_7d493) (mCd MJ0_coder_7d493) (mMx MJ0_coder_7d493) (mRt MJ0_coder_7d493) ∈ lw_tbl := List.mem_of_getElem? (i := 392) rfl
set_option maxRecDepth 100000 in
theorem tc_181 : Cond.code (mNm MJ0_isLatin1_aae02) (mCd MJ0_isLatin1_aae02) (mMx MJ0_isLatin1_aae02) (mRt MJ0_isLatin1_aae02) ∈ lw_tbl := List.mem_of_getElem? (i := 382) rfl
set_option maxRecDepth 100000 in
theorem tc_182 : Cond.code (mNm MJ1_canEncode_9a6ad) (mCd MJ1_canEncode_9a6ad) (mMx MJ1_canEncode_9a6ad) (mRt MJ1_canEncode_9a6ad) ∈ lw_tbl := List.mem_of_getElem? (i := 398) rfl
set_option maxRecDepth 100000 in
theorem tc_183 : Cond.code (mNm MJ1_indexOf_4cfef) (mCd MJ1_indexOf_4cfef) (mMx MJ1_indexOf_4cfef) (mRt MJ1_indexOf_4cfef) ∈ lw_tbl := List.mem_of_getElem? (i := 395) rfl
set_option maxRecDepth 100000 in
theorem tc_184 : Cond.code (mNm MJ1_indexOfChar_4cfef) (mCd MJ1_indexOfChar_4cfef) (mMx MJ1_indexOfChar_4cfef) (mRt MJ1_indexOfChar_4cfef) ∈ lw_tbl := List.mem_of_getElem? (i := 407) rfl
set_option maxRecDepth 100000 in
theorem tabC0 : ∀ q ∈ rTabW0, Cond.code (mNm (mtab q.1)) (mCd (mtab q.1)) (mMx (mtab q.1)) (mRt (mtab q.1)) ∈ lw_tbl := List.forall_mem_cons.mpr ⟨tc_0, List.forall_mem_cons.mpr ⟨tc_1, List.forall_mem_cons.mpr ⟨tc_2, List.forall_mem_cons.mpr ⟨tc_3, List.forall_mem_cons.mpr ⟨tc_4, List.forall_mem_cons.mpr ⟨tc_5, List.forall_mem_cons.mpr ⟨tc_6, List.forall_mem_cons.mpr ⟨tc_7, List.forall_mem_cons.mpr ⟨tc_8, List.forall_mem_cons.mpr ⟨tc_9, List.forall_mem_cons.mpr ⟨tc_10, List.forall_mem_cons.mpr ⟨tc_11, List.forall_mem_cons.mpr ⟨tc_12, List.forall_mem_cons.mpr ⟨tc_13, List.forall_mem_cons.mpr ⟨tc_14, fun _ h => absurd h List.not_mem_nil⟩⟩⟩⟩⟩⟩⟩⟩⟩⟩⟩⟩⟩⟩⟩
set_option maxRecDepth 100000 in
theorem tabW0 : rTabW0.all okW = true := by decide +kernel
set_option maxRecDepth 100000 in
theorem tabC1 : ∀ q ∈ rTabW1, Cond.code (mNm (mtab q.1)) (mCd (mtab q.1)) (mMx (mtab q.1)) (mRt (mtab q.1)) ∈ lw_tbl := List.forall_mem_cons.mpr ⟨tc_15, List.forall_mem_cons.mpr ⟨tc_16, List.forall_mem_cons.mpr ⟨tc_17, List.forall_mem_cons.mpr ⟨tc_18, List.forall_mem_cons.mpr ⟨tc_19, List.forall_mem_cons.mpr ⟨tc_20, List.forall_mem_cons.mpr ⟨tc_21, List.forall_mem_cons.mpr ⟨tc_22, List.forall_mem_cons.mpr ⟨tc_23, List.forall_mem_cons.mpr ⟨tc_24, List.forall_mem_cons.mpr ⟨tc_25, List.forall_mem_cons.mpr ⟨tc_26, List.forall_mem_cons.mpr ⟨tc_27, List.forall_mem_cons.mpr ⟨tc_28, List.forall_mem_cons.mpr ⟨tc_29, fun _ h => absurd h List.not_mem_nil⟩⟩⟩⟩⟩⟩⟩⟩⟩⟩⟩⟩⟩⟩⟩
set_option maxRecDepth 100000 in
theorem tabW1 : rTabW1.all okW = true := by decide +kernel
set_option maxRecDepth 100000 in
theorem tabC2 : ∀ q ∈ rTabW2, Cond.code (mNm (mtab q.1)) (mCd (mtab q.1)) (mMx (mtab q.1)) (mRt (mtab q.1)) ∈ lw_tbl := List.forall_mem_cons.mpr ⟨tc_30, List.forall_mem_cons.mpr ⟨tc_31, List.forall_mem_cons.mpr ⟨tc_32, List.forall_mem_cons.mpr ⟨tc_33, List.forall_mem_cons.mpr ⟨tc_34, List.forall_mem_cons.mpr ⟨tc_35, List.forall_mem_cons.mpr ⟨tc_36, List.forall_mem_cons.mpr ⟨tc_37, List.forall_mem_cons.mpr ⟨tc_38, List.forall_mem_cons.mpr ⟨tc_39, List.forall_mem_cons.mpr ⟨tc_40, List.forall_mem_cons.mpr ⟨tc_41, List.forall_mem_cons.mpr ⟨tc_42, List.forall_mem_cons.mpr ⟨tc_43, List.forall_mem_cons.mpr ⟨tc_44, fun _ h => absurd h List.not_mem_nil⟩⟩⟩⟩⟩⟩⟩⟩⟩⟩⟩⟩⟩⟩⟩
set_option maxRecDepth 100000 in
theorem tabW2 : rTabW2.all okW = true := by decide +kernel
set_option maxRecDepth 100000 in
theorem tabC3 : ∀ q ∈ rTabW3, Cond.code (mNm (mtab q.1)) (mCd (mtab q.1)) (mMx (mtab q.1)) (mRt (mtab q.1)) ∈ lw_tbl := List.forall_mem_cons.mpr ⟨tc_45, List.forall_mem_cons.mpr ⟨tc_46, List.forall_mem_cons.mpr ⟨tc_47, List.forall_mem_cons.mpr ⟨tc_48, List.forall_mem_cons.mpr ⟨tc_49, List.forall_mem_cons.mpr ⟨tc_50, List.forall_mem_cons.mpr ⟨tc_51, List.forall_mem_cons.mpr ⟨tc_52, List.forall_mem_cons.mpr ⟨tc_53, List.forall_mem_cons.mpr ⟨tc_54, List.forall_mem_cons.mpr ⟨tc_55, List.forall_mem_cons.mpr ⟨tc_56, List.forall_mem_cons.mpr ⟨tc_57, List.forall_mem_cons.mpr ⟨tc_58, List.forall_mem_cons.mpr ⟨tc_59, fun _ h => absurd h List.not_mem_nil⟩⟩⟩⟩⟩⟩⟩⟩⟩⟩⟩⟩⟩⟩⟩
set_option maxRecDepth 100000 in
theorem tabW3 : rTabW3.all okW = true := by decide +kernel
set_option maxRecDepth 100000 in
theorem tabC4 : ∀ q ∈ rTabW4, Cond.code (mNm (mtab q.1)) (mCd (mtab q.1)) (mMx (mtab q.1)) (mRt (mtab q.1)) ∈ lw_tbl := List.forall_mem_cons.mpr ⟨tc_60, List.forall_mem_cons.mpr ⟨tc_61, List.forall_mem_cons.mpr ⟨tc_62, List.forall_mem_cons.mpr ⟨tc_63, List.forall_mem_cons.mpr ⟨tc_64, List.forall_mem_cons.mpr ⟨tc_65, List.forall_mem_cons.mpr ⟨tc_66, List.forall_mem_cons.mpr ⟨tc_67, List.forall_mem_cons.mpr ⟨tc_68, List.forall_mem_cons.mpr ⟨tc_69, List.forall_mem_cons.mpr ⟨tc_70, List.forall_mem_cons.mpr ⟨tc_71, List.forall_mem_cons.mpr ⟨tc_72, List.forall_mem_cons.mpr ⟨tc_73, List.forall_mem_cons.mpr ⟨tc_74, fun _ h => absurd h List.not_mem_nil⟩⟩⟩⟩⟩⟩⟩⟩⟩⟩⟩⟩⟩⟩⟩
set_option maxRecDepth 100000 in
theorem tabW4 : rTabW4.all okW = true := by decide +kernel
set_option maxRecDepth 100000 in
theorem tabC5 : ∀ q ∈ rTabW5, Cond.code (mNm (mtab q.1)) (mCd (mtab q.1)) (mMx (mtab q.1)) (mRt (mtab q.1)) ∈ lw_tbl := List.forall_mem_cons.mpr ⟨tc_75, List.forall_mem_cons.mpr ⟨tc_76, List.forall_mem_cons.mpr ⟨tc_77, List.forall_mem_cons.mpr ⟨tc_78, List.forall_mem_cons.mpr ⟨tc_79, List.forall_mem_cons.mpr ⟨tc_80, List.forall_mem_cons.mpr ⟨tc_81, List.forall_mem_cons.mpr ⟨tc_82, List.forall_mem_cons.mpr ⟨tc_83, List.forall_mem_cons.mpr ⟨tc_84, List.forall_mem_cons.mpr ⟨tc_85, List.forall_mem_cons.mpr ⟨tc_86, List.forall_mem_cons.mpr ⟨tc_87, List.forall_mem_cons.mpr ⟨tc_88, List.forall_mem_cons.mpr ⟨tc_89, fun _ h => absurd h List.not_mem_nil⟩⟩⟩⟩⟩⟩⟩⟩⟩⟩⟩⟩⟩⟩⟩
set_option maxRecDepth 100000 in
theorem tabW5 : rTabW5.all okW = true := by decide +kernel
set_option maxRecDepth 100000 in
theorem tabC6 : ∀ q ∈ rTabW6, Cond.code (mNm (mtab q.1)) (mCd (mtab q.1)) (mMx (mtab q.1)) (mRt (mtab q.1)) ∈ lw_tbl := List.forall_mem_cons.mpr ⟨tc_90, List.forall_mem_cons.mpr ⟨tc_91, List.forall_mem_cons.mpr ⟨tc_92, List.forall_mem_cons.mpr ⟨tc_93, List.forall_mem_cons.mpr ⟨tc_94, List.forall_mem_cons.mpr ⟨tc_95, List.forall_mem_cons.mpr ⟨tc_96, List.forall_mem_cons.mpr ⟨tc_97, List.forall_mem_cons.mpr ⟨tc_98, List.forall_mem_cons.mpr ⟨tc_99, List.forall_mem_cons.mpr ⟨tc_100, List.forall_mem_cons.mpr ⟨tc_101, List.forall_mem_cons.mpr ⟨tc_102, List.forall_mem_cons.mpr ⟨tc_103, List.forall_mem_cons.mpr ⟨tc_104, fun _ h => absurd h List.not_mem_nil⟩⟩⟩⟩⟩⟩⟩⟩⟩⟩⟩⟩⟩⟩⟩
set_option maxRecDepth 100000 in
theorem tabW6 : rTabW6.all okW = true := by decide +kernel
set_option maxRecDepth 100000 in
theorem tabC7 : ∀ q ∈ rTabW7, Cond.code (mNm (mtab q.1)) (mCd (mtab q.1)) (mMx (mtab q.1)) (mRt (mtab q.1)) ∈ lw_tbl := List.forall_mem_cons.mpr ⟨tc_105, List.forall_mem_cons.mpr ⟨tc_106, List.forall_mem_cons.mpr ⟨tc_107, List.forall_mem_cons.mpr ⟨tc_108, List.forall_mem_cons.mpr ⟨tc_109, List.forall_mem_cons.mpr ⟨tc_110, List.forall_mem_cons.mpr ⟨tc_111, List.forall_mem_cons.mpr ⟨tc_112, List.forall_mem_cons.mpr ⟨tc_113, List.forall_mem_cons.mpr ⟨tc_114, List.forall_mem_cons.mpr ⟨tc_115, List.forall_mem_cons.mpr ⟨tc_116, List.forall_mem_cons.mpr ⟨tc_117, List.forall_mem_cons.mpr ⟨tc_118, List.forall_mem_cons.mpr ⟨tc_119, fun _ h => absurd h List.not_mem_nil⟩⟩⟩⟩⟩⟩⟩⟩⟩⟩⟩⟩⟩⟩⟩
set_option maxRecDepth 100000 in
theorem tabW7 : rTabW7.all okW = true := by decide +kernel
set_option maxRecDepth 100000 in
theorem tabC8 : ∀ q ∈ rTabW8, Cond.code (mNm (mtab q.1)) (mCd (mtab q.1)) (mMx (mtab q.1)) (mRt (mtab q.1)) ∈ lw_tbl := List.forall_mem_cons.mpr ⟨tc_120, List.forall_mem_cons.mpr ⟨tc_121, List.forall_mem_cons.mpr ⟨tc_122, List.forall_mem_cons.mpr ⟨tc_123, List.forall_mem_cons.mpr ⟨tc_124, List.forall_mem_cons.mpr ⟨tc_125, List.forall_mem_cons.mpr ⟨tc_126, List.forall_mem_cons.mpr ⟨tc_127, List.forall_mem_cons.mpr ⟨tc_128, List.forall_mem_cons.mpr ⟨tc_129, List.forall_mem_cons.mpr ⟨tc_130, List.forall_mem_cons.mpr ⟨tc_131, List.forall_mem_cons.mpr ⟨tc_132, List.forall_mem_cons.mpr ⟨tc_133, List.forall_mem_cons.mpr ⟨tc_134, fun _ h => absurd h List.not_mem_nil⟩⟩⟩⟩⟩⟩⟩⟩⟩⟩⟩⟩⟩⟩⟩
set_option maxRecDepth 100000 in
theorem tabW8 : rTabW8.all okW = true := by decide +kernel
set_option maxRecDepth 100000 in
theorem tabC9 : ∀ q ∈ rTabW9, Cond.code (mNm (mtab q.1)) (mCd (mtab q.1)) (mMx (mtab q.1)) (mRt (mtab q.1)) ∈ lw_tbl := List.forall_mem_cons.mpr ⟨tc_135, List.forall_mem_cons.mpr ⟨tc_136, List.forall_mem_cons.mpr ⟨tc_137, List.forall_mem_cons.mpr ⟨tc_138, List.forall_mem_cons.mpr ⟨tc_139, List.forall_mem_cons.mpr ⟨tc_140, List.forall_mem_cons.mpr ⟨tc_141, List.forall_mem_cons.mpr ⟨tc_142, List.forall_mem_cons.mpr ⟨tc_143, List.forall_mem_cons.mpr ⟨tc_144, List.forall_mem_cons.mpr ⟨tc_145, List.forall_mem_cons.mpr ⟨tc_146, List.forall_mem_cons.mpr ⟨tc_147, List.forall_mem_cons.mpr ⟨tc_148, List.forall_mem_cons.mpr ⟨tc_149, fun _ h => absurd h List.not_mem_nil⟩⟩⟩⟩⟩⟩⟩⟩⟩⟩⟩⟩⟩⟩⟩
set_option maxRecDepth 100000 in
theorem tabW9 : rTabW9.all okW = true := by decide +kernel
set_option maxRecDepth 100000 in
theorem tabC10 : ∀ q ∈ rTabW10, Cond.code (mNm (mtab q.1)) (mCd (mtab q.1)) (mMx (mtab q.1)) (mRt (mtab q.1)) ∈ lw_tbl := List.forall_mem_cons.mpr ⟨tc_150, List.forall_mem_cons.mpr ⟨tc_151, List.forall_mem_cons.mpr ⟨tc_152, List.forall_mem_cons.mpr ⟨tc_153, List.forall_mem_cons.mpr ⟨tc_154, List.forall_mem_cons.mpr ⟨tc_155, List.forall_mem_cons.mpr ⟨tc_156, List.forall_mem_cons.mpr ⟨tc_157, List.forall_mem_cons.mpr ⟨tc_158, List.forall_mem_cons.mpr ⟨tc_159, List.forall_mem_cons.mpr ⟨tc_160, List.forall_mem_cons.mpr ⟨tc_161, List.forall_mem_cons.mpr ⟨tc_162, List.forall_mem_cons.mpr ⟨tc_163, List.forall_mem_cons.mpr ⟨tc_164, fun _ h => absurd h List.not_mem_nil⟩⟩⟩⟩⟩⟩⟩⟩⟩⟩⟩⟩⟩⟩⟩
set_option maxRecDepth 100000 in
theorem tabW10 : rTabW10.all okW = true := by decide +kernel
set_option maxRecDepth 100000 in
theorem tabC11 : ∀ q ∈ rTabW11, Cond.code (mNm (mtab q.1)) (mCd (mtab q.1)) (mMx (mtab q.1)) (mRt (mtab q.1)) ∈ lw_tbl := List.forall_mem_cons.mpr ⟨tc_165, List.forall_mem_cons.mpr ⟨tc_166, List.forall_mem_cons.mpr ⟨tc_167, List.forall_mem_cons.mpr ⟨tc_168, List.forall_mem_cons.mpr ⟨tc_169, List.forall_mem_cons.mpr ⟨tc_170, List.forall_mem_cons.mpr ⟨tc_171, List.forall_mem_cons.mpr ⟨tc_172, List.forall_mem_cons.mpr ⟨tc_173, List.forall_mem_cons.mpr ⟨tc_175, List.forall_mem_cons.mpr ⟨tc_176, List.forall_mem_cons.mpr ⟨tc_177, List.forall_mem_cons.mpr ⟨tc_178, List.forall_mem_cons.mpr ⟨tc_179, List.forall_mem_cons.mpr ⟨tc_180, fun _ h => absurd h List.not_mem_nil⟩⟩⟩⟩⟩⟩⟩⟩⟩⟩⟩⟩⟩⟩⟩
set_option maxRecDepth 100000 in
theorem tabW11 : rTabW11.all okW = true := by decide +kernel
set_option maxRecDepth 100000 in
theorem tabC12 : ∀ q ∈ rTabW12, Cond.code (mNm (mtab q.1)) (mCd (mtab q.1)) (mMx (mtab q.1)) (mRt (mtab q.1)) ∈ lw_tbl := List.forall_mem_cons.mpr ⟨tc_181, List.forall_mem_cons.mpr ⟨tc_182, List.forall_mem_cons.mpr ⟨tc_183, List.forall_mem_cons.mpr ⟨tc_184, fun _ h => absurd h List.not_mem_nil⟩⟩⟩⟩
set_option maxRecDepth 100000 in
theorem tabW12 : rTabW12.all okW = true := by decide +kernel
theorem tabC : ∀ q ∈ rTabW, Cond.code (mNm (mtab q.1)) (mCd (mtab q.1)) (mMx (mtab q.1)) (mRt (mtab q.1)) ∈ lw_tbl := List.forall_mem_append.mpr ⟨tabC0, List.forall_mem_append.mpr ⟨tabC1, List.forall_mem_append.mpr ⟨tabC2, List.forall_mem_append.mpr ⟨tabC3, List.forall_mem_append.mpr ⟨tabC4, List.forall_mem_append.mpr ⟨tabC5, List.forall_mem_append.mpr ⟨tabC6, List.forall_mem_append.mpr ⟨tabC7, List.forall_mem_append.mpr ⟨tabC8, List.forall_mem_append.mpr ⟨tabC9, List.forall_mem_append.mpr ⟨tabC10, List.forall_mem_append.mpr ⟨tabC11, tabC12⟩⟩⟩⟩⟩⟩⟩⟩⟩⟩⟩⟩
theorem tabW_ok : ∀ q ∈ rTabW, okW q = true := List.forall_mem_append.mpr ⟨List.all_eq_true.mp tabW0, List.forall_mem_append.mpr ⟨List.all_eq_true.mp tabW1, List.forall_mem_append.mpr ⟨List.all_eq_true.mp tabW2, List.forall_mem_append.mpr ⟨List.all_eq_true.mp tabW3, List.forall_mem_append.mpr ⟨List.all_eq_true.mp tabW4, List.forall_mem_append.mpr ⟨List.all_eq_true.mp tabW5, List.forall_mem_append.mpr ⟨List.all_eq_true.mp tabW6, List.forall_mem_append.mpr ⟨List.all_eq_true.mp tabW7, List.forall_mem_append.mpr ⟨List.all_eq_true.mp tabW8, List.forall_mem_append.mpr ⟨List.all_eq_true.mp tabW9, List.forall_mem_append.mpr ⟨List.all_eq_true.mp tabW10, List.forall_mem_append.mpr ⟨List.all_eq_true.mp tabW11, List.all_eq_true.mp tabW12⟩⟩⟩⟩⟩⟩⟩⟩⟩⟩⟩⟩
