/-! the text constant: String.indexOf, and the tape's readLetter -/
abbrev sK (G : mG) : Nat := G.2.2.2.2.1 0
abbrev sV (G : mG) : Nat := G.2.2.2.2.2 0
set_option maxRecDepth 100000 in
theorem strS : (Cond.selects "java/lang/String" ⟨"java/lang/String", "indexOf", "(I)I"⟩ ⟨"java/lang/String", "indexOf", "(I)I"⟩ ∈ lw_tbl) ∧ (Cond.selects "java/lang/String" ⟨"java/lang/String", "indexOf", "(II)I"⟩ ⟨"java/lang/String", "indexOf", "(II)I"⟩ ∈ lw_tbl) ∧ (Cond.selects "java/lang/String" ⟨"java/lang/String", "isLatin1", "()Z"⟩ ⟨"java/lang/String", "isLatin1", "()Z"⟩ ∈ lw_tbl) ∧ (Cond.selects "java/lang/String" ⟨"java/lang/String", "length", "()I"⟩ ⟨"java/lang/String", "length", "()I"⟩ ∈ lw_tbl) ∧ (Cond.selects "java/lang/String" ⟨"java/lang/String", "coder", "()B"⟩ ⟨"java/lang/String", "coder", "()B"⟩ ∈ lw_tbl) := by decide +kernel
set_option maxRecDepth 100000 in
theorem strF : Cond.fieldLink "java/lang/String" 38 "java/lang/String" "COMPACT_STRINGS" "Z" ∈ lw_tbl ∧ Cond.fieldLink "java/lang/String" 15 "java/lang/String" "coder" "B" ∈ lw_tbl ∧ Cond.fieldLink "java/lang/String" 9 "java/lang/String" "value" "[B" ∈ lw_tbl := by decide +kernel
section MWT
variable {G : mG} {M : mI} {Z : mZ}
theorem MW.ldcS {pc : Nat} {r : List Value} {L : mL} {h : mH} {al : mAl} (hcl : mOwn (mCls M) = "CornerFronts$Tape") (hd : decode (mCd M) pc = .ok (.ldc 68, 2)) (k : MW G M Z (pc + 2) L (.ref (sK G) :: r) h al) : MW G M Z pc L r h al := by
  intro p e s m args below meth c C X H locs ls hN hP hS hL
  have kk := k p e s m args below meth c C X H locs ls hN hP hS hL
  obtain ⟨hx, hb, -, hml, hown, hts, -, hK, hgS, hB, hnm⟩ := C
  rw [hcl] at hown
  exact va_ldcS hx hb hown hgS.2.2.1 hd kk
theorem MW.gets {pc : Nat} {r : List Value} {L : mL} {h : mH} {al : mAl} (hcl : mOwn (mCls M) = "java/lang/String") (hd : decode (mCd M) pc = .ok (.getstatic 38, 3)) (k : MW G M Z (pc + 3) L (.int 1 :: r) h al) : MW G M Z pc L r h al := by
  intro p e s m args below meth c C X H locs ls hN hP hS hL
  have kk := k p e s m args below meth c C X H locs ls hN hP hS hL
  obtain ⟨hx, hb, -, hml, hown, hts, -, hK, hgS, hB, hnm⟩ := C
  rw [hcl] at hown
  exact va_gets hx hb hgS.2.2.2.1 hS hown (hts _ (List.mem_filter.mpr ⟨strF.1, rfl⟩)) (fun _ q => q) hd kk
theorem MW.strc {pc : Nat} {r : List Value} {L : mL} {h : mH} {al : mAl} (hcl : mOwn (mCls M) = "java/lang/String") (hd : decode (mCd M) pc = .ok (.getfield 15, 3)) (k : MW G M Z (pc + 3) L (.int 0 :: r) h al) : MW G M Z pc L (.ref (sK G) :: r) h al := by
  intro p e s m args below meth c C X H locs ls hN hP hS hL
  have kk := k p e s m args below meth c C X H locs ls hN hP hS hL
  obtain ⟨hx, hb, -, hml, hown, hts, -, hK, hgS, hB, hnm⟩ := C
  rw [hcl] at hown
  exact vk_getf hx hb (hgS.2.1.1 0 (by decide)).2.1 hS hown (hts _ (List.mem_filter.mpr ⟨strF.2.1, rfl⟩)) (fun _ q => q) hd kk
theorem MW.strv {pc : Nat} {r : List Value} {L : mL} {h : mH} {al : mAl} (hcl : mOwn (mCls M) = "java/lang/String") (hd : decode (mCd M) pc = .ok (.getfield 9, 3)) (k : MW G M Z (pc + 3) L (.ref (sV G) :: r) h al) : MW G M Z pc L (.ref (sK G) :: r) h al := by
  intro p e s m args below meth c C X H locs ls hN hP hS hL
  have kk := k p e s m args below meth c C X H locs ls hN hP hS hL
  obtain ⟨hx, hb, -, hml, hown, hts, -, hK, hgS, hB, hnm⟩ := C
  rw [hcl] at hown
  exact vk_getf hx hb (hgS.2.1.1 0 (by decide)).2.2.1 hS hown (hts _ (List.mem_filter.mpr ⟨strF.2.2, rfl⟩)) (fun _ q => q) hd kk
theorem MW.tlen {pc : Nat} {r : List Value} {L : mL} {h : mH} {al : mAl} (hd : decode (mCd M) pc = .ok (.arraylength, 1)) (k : MW G M Z (pc + 1) L (.int 3 :: r) h al) : MW G M Z pc L (.ref (sV G) :: r) h al := by
  intro p e s m args below meth c C X H locs ls hN hP hS hL
  have kk := k p e s m args below meth c C X H locs ls hN hP hS hL
  obtain ⟨hx, hb, -, hml, hown, hts, -, hK, hgS, hB, hnm⟩ := C
  obtain ⟨cell, h1, h2, h3, h4, h5, h6, h7⟩ := (hgS.2.1.1 0 (by decide)).2.2.2
  exact W.alen (n := 3) hx hb (by rw [hS.2.1 _ (Array.getElem?_eq_some_iff.mp h1).1 h7]; exact h1) h2 h5 rfl rfl hd kk
theorem MW.tbld {pc : Nat} {i v : Int32} {r : List Value} {L : mL} {h : mH} {al : mAl} (hd : decode (mCd M) pc = .ok (.baload, 1)) (hi : vp_in i 3) (hv : ([98, 120, 100] : List Int32).getD i.toNatClampNeg 0 = v) (k : MW G M Z (pc + 1) L (.int v :: r) h al) : MW G M Z pc L (.int i :: .ref (sV G) :: r) h al := by
  intro p e s m args below meth c C X H locs ls hN hP hS hL
  have kk := k p e s m args below meth c C X H locs ls hN hP hS hL
  obtain ⟨hx, hb, -, hml, hown, hts, -, hK, hgS, hB, hnm⟩ := C
  exact va_tb hx hb (hgS.2.1.1 0 (by decide)).2.2.2 hS hi (congrArg Value.int hv) hd kk
theorem MW.callVs {post : Option Value → mH → Prop} {pc idx a b : Nat} {As r : List Value} {L : mL} {h : mH} {al : mAl} {d : Nat} (hR : d ≤ Z.1.frames ∧ 64 * d ≤ Z.1.locals) (h1 : 1 ≤ d) (hst : mstW r ≤ 8) (hcs : (mNm (mtab a)).cls = "java/lang/String") (hl : Cond.methodLink (mOwn (mCls M)) idx (mNm (mtab a)) ∈ lw_g) (hw : mWok a 3 b) (hsel : Cond.selects (mNm (mtab a)).cls (mNm (mtab a)) (mNm (mtab a)) ∈ lw_g) (hn : As.length = b) (hd : decode (mCd M) pc = .ok (.invokevirtual idx, 3))
    (k : MC G (mtab a) (d - 1) 0 0 (.ref (sK G) :: As) h al.1 post) (hk : ∀ rv h', post rv h' → MW G M Z (pc + 3) L (rv.toList ++ r) h' al) : MW G M Z pc L (As.reverse ++ .ref (sK G) :: r) h al := by
  intro p e s m args below meth c C X H locs ls hN hP hS hL T hT XX
  have hsz : H.size = al.1 := by have := heap_le hT XX; omega
  have C0 := C
  obtain ⟨hx, hb, -, hml, hown, hts, -, hK, hgS, hB, hnm⟩ := C
  have hrecv := vk_recv hgS.2.1 (i := 0) (by decide) hS
  rw [← hcs] at hrecv
  refine mm_call (va_runV (C := (mNm (mtab a)).cls) (b := sK G) (As := As) (rest := r) (bytes := mCd (mtab a)) (maxL := mMx (mtab a)) (ret := mRt (mtab a)) (n := b) ⟨hx, hb, hml, hown, hts⟩ k
    ⟨callB_of b hts (good_g (mWd_g hw)) rfl rfl rfl (hts _ hw.2.2.2.2.1) (hts _ hl) hw.2.2.2.2.2.1 ⟨by show d - 1 + 1 ≤ _; omega, by show 8 + (mMx (mtab a) + 11) + 64 * (d - 1) ≤ _; have := hw.2.2.2.2.2.2.1.2.1; omega⟩, hts _ (hw.2.2.1 (by decide)), hts _ hsel⟩
    ⟨mIn_blind, hrecv, fun U hU hW => ⟨rfl, mIn_of hsz hP hK hgS hB hS hU hW⟩⟩ rfl hn hL.1 rfl (by show 2 * 0 + _ ≤ 8; unfold mstW at hst; omega) hd ⟨by show al.2.1 + 0 ≤ _; omega, by show al.2.2 + 0 ≤ _; omega⟩) hS (fun rv h' H1 locs1 hpost hs1 hP1 hS1 => ?_) T hT XX
  exact hk _ _ hpost p e s m args below meth c C0 X H1 locs1 ls ⟨hN.1, by omega, hN.2.2⟩ hP1 hS1 hL
theorem MW.bret {d mc ms pc : Nat} {x : Int32} {post : Option Value → mH → Prop} {L : mL} {h : mH} {al : mAl} (e1 : mRt M = some .byte) (hx0 : narrow .byte (.int x) = .int x) (hd : decode (mCd M) pc = .ok (.ireturn, 1)) (hq : al.2.1 = mc ∧ al.2.2 ≤ ms ∧ post (some (.int x)) h) : MW G M (mz G d mc ms post) pc L [.int x] h al := by
  intro p e s m args below meth c C X H locs ls hN hP hS hL T hT XX
  have hsz : H.size = s.heap.size + mc := by have := heap_le hT XX; have := hq.1; omega
  obtain ⟨hx, hb, hr, hml, hown, hts, hlk, hK, hgS, hB, hnm⟩ := C
  have hQ : ∀ t : State, t.heap = H → s.WarmedH t.vm → mQ G mc post args s (.returned (some (.int x))) t := fun t ht hW => ⟨⟨_, h, rfl, hq.2.2, by rw [ht]; exact hsz, by rw [ht]; exact hP⟩, hS.F ht⟩
  exact W.widen (k := mc) (n := ms) (Nat.le_of_eq hq.1) hq.2.1 (W.zret hx hb (hr.trans e1) hx0 hQ hS.2.2 hd hlk) T hT XX
end MWT
def ixN (b : Nat) : Int32 := if b = 98 then 0 else if b = 120 then 1 else if b = 100 then 2 else -1
theorem y_key : (List.range 256).all (fun b => ((decide ((98 : Int32) = (nI b).toInt8.toInt32) == decide (b = 98)) && (decide ((120 : Int32) = (nI b).toInt8.toInt32) == decide (b = 120))) && (decide ((100 : Int32) = (nI b).toInt8.toInt32) == decide (b = 100))) = true := by decide +kernel
theorem y_eq {b : Nat} (h : b < 256) : ((98 : Int32) = (nI b).toInt8.toInt32 ↔ b = 98) ∧ ((120 : Int32) = (nI b).toInt8.toInt32 ↔ b = 120) ∧ ((100 : Int32) = (nI b).toInt8.toInt32 ↔ b = 100) := by
  have key := List.all_eq_true.mp y_key b (List.mem_range.mpr h)
  simp only [Bool.and_eq_true, beq_iff_eq, decide_eq_decide] at key
  exact ⟨key.1.1, key.1.2, key.2⟩
theorem c_key : (List.range 256).all (fun b => ((sgn8 b &&& 255).toUInt32 % 65536).toInt32 == nI b) = true := by decide +kernel
theorem c_eq {b : Nat} (h : b < 256) : ((sgn8 b &&& 255).toUInt32 % 65536).toInt32 = nI b := by
  have key := List.all_eq_true.mp c_key b (List.mem_range.mpr h)
  rwa [beq_iff_eq] at key
section STR
variable {G : mG} {d N : Nat} {h : mH} {post : Option Value → mH → Prop}
set_option maxRecDepth 10000 in
theorem j_indexOfChar {b : Nat} (hb : b < 256) (hp : post (some (.int (ixN b))) h) : MC G MJ1_indexOfChar_4cfef d 0 0 [.ref (sV G), .int (nI b), .int 0, .int 3] h N post := by
  obtain ⟨y1, y2, y3⟩ := y_eq hb
  unfold ixN at hp
  have w0 : ((3 : Int32) ≤ 0) = False := eq_false (by decide)
  have w1 : ((3 : Int32) ≤ 1) = False := eq_false (by decide)
  have w2 : ((3 : Int32) ≤ 2) = False := eq_false (by decide)
  have w3 : ((3 : Int32) ≤ 3) = True := eq_true (by decide)
  have v0 : vp_in 0 3 := by unfold vp_in; decide
  have v1 : vp_in 1 3 := by unfold vp_in; decide
  have v2 : vp_in 2 3 := by unfold vp_in; decide
  have a1 : (0 : Int32) + 1 = 1 := rfl
  have a2 : (1 : Int32) + 1 = 2 := rfl
  have a3 : (2 : Int32) + 1 = 3 := rfl
  refine MC.of (L0 := [some (.ref (sV G)), some (.int (nI b)), some (.int 0), some (.int 3), none, none]) gd_J1_indexOfChar_4cfef (Nat.le_of_ble_eq_true rfl) rfl (MW.run gd_J1_indexOfChar_4cfef [16] 14 ?_)
  generalize hy : (nI b).toInt8.toInt32 = y at y1 y2 y3
  simp (disch := omega) only [↓EVk, ↓w_if_eq, ↓w_an_ite, ↓mEndK, ↓w_retK0, ↓w_fitK, ↓w_dupK, ↓w_dup2K, w_an_back, ↓EVd, ↓ft_J1_indexOfChar_4cfef, ↓reduceIte, ↓EV_obs, ↓EV_obn, ↓EV_ais, ↓EV_ain, mdF, mRun, List.mem_cons, List.not_mem_nil, or_false, mtab_eq, Nat.reduceEqDiff, Nat.zero_add, w0, hy, mset2, b10, b00, not_true_eq_false, not_false_eq_true, true_implies, false_implies, implies_true, and_true, true_and, Nat.le_refl, true_or, or_true, eq_self, List.length_cons, List.length_nil, Nat.reduceAdd, Nat.reduceLT, Nat.reduceLeDiff]
  refine MW.tbld (v := 98) (MW.dec gd_J1_indexOfChar_4cfef (pc := 16) rfl) v0 rfl (MW.run gd_J1_indexOfChar_4cfef [16] 14 ?_)
  by_cases c1 : b = 98
  · rw [if_pos c1] at hp
    have f : ((98 : Int32) = y) = True := eq_true (y1.mpr c1)
    simp (disch := omega) only [↓EVk, ↓w_if_eq, ↓w_an_ite, ↓mEndK, ↓w_retK0, ↓w_fitK, ↓w_dupK, ↓w_dup2K, w_an_back, ↓EVd, ↓ft_J1_indexOfChar_4cfef, ↓reduceIte, ↓EV_obs, ↓EV_obn, ↓EV_ais, ↓EV_ain, mdF, mRun, List.mem_cons, List.not_mem_nil, or_false, mtab_eq, Nat.reduceEqDiff, Nat.zero_add, f, mset2, b10, b00, not_true_eq_false, not_false_eq_true, true_implies, false_implies, implies_true, and_true, true_and, Nat.le_refl, true_or, or_true, eq_self, List.length_cons, List.length_nil, Nat.reduceAdd, Nat.reduceLT, Nat.reduceLeDiff]
    exact hp
  rw [if_neg c1] at hp
  have f : ((98 : Int32) = y) = False := eq_false (fun z => c1 (y1.mp z))
  simp (disch := omega) only [↓EVk, ↓w_if_eq, ↓w_an_ite, ↓mEndK, ↓w_retK0, ↓w_fitK, ↓w_dupK, ↓w_dup2K, w_an_back, ↓EVd, ↓ft_J1_indexOfChar_4cfef, ↓reduceIte, ↓EV_obs, ↓EV_obn, ↓EV_ais, ↓EV_ain, mdF, mRun, List.mem_cons, List.not_mem_nil, or_false, mtab_eq, Nat.reduceEqDiff, Nat.zero_add, f, a1, w1, mset2, b10, b00, not_true_eq_false, not_false_eq_true, true_implies, false_implies, implies_true, and_true, true_and, Nat.le_refl, true_or, or_true, eq_self, List.length_cons, List.length_nil, Nat.reduceAdd, Nat.reduceLT, Nat.reduceLeDiff]
  refine MW.tbld (v := 120) (MW.dec gd_J1_indexOfChar_4cfef (pc := 16) rfl) v1 rfl (MW.run gd_J1_indexOfChar_4cfef [16] 14 ?_)
  by_cases c2 : b = 120
  · rw [if_pos c2] at hp
    have f2 : ((120 : Int32) = y) = True := eq_true (y2.mpr c2)
    simp (disch := omega) only [↓EVk, ↓w_if_eq, ↓w_an_ite, ↓mEndK, ↓w_retK0, ↓w_fitK, ↓w_dupK, ↓w_dup2K, w_an_back, ↓EVd, ↓ft_J1_indexOfChar_4cfef, ↓reduceIte, ↓EV_obs, ↓EV_obn, ↓EV_ais, ↓EV_ain, mdF, mRun, List.mem_cons, List.not_mem_nil, or_false, mtab_eq, Nat.reduceEqDiff, Nat.zero_add, f2, mset2, b10, b00, not_true_eq_false, not_false_eq_true, true_implies, false_implies, implies_true, and_true, true_and, Nat.le_refl, true_or, or_true, eq_self, List.length_cons, List.length_nil, Nat.reduceAdd, Nat.reduceLT, Nat.reduceLeDiff]
    exact hp
  rw [if_neg c2] at hp
  have f2 : ((120 : Int32) = y) = False := eq_false (fun z => c2 (y2.mp z))
  simp (disch := omega) only [↓EVk, ↓w_if_eq, ↓w_an_ite, ↓mEndK, ↓w_retK0, ↓w_fitK, ↓w_dupK, ↓w_dup2K, w_an_back, ↓EVd, ↓ft_J1_indexOfChar_4cfef, ↓reduceIte, ↓EV_obs, ↓EV_obn, ↓EV_ais, ↓EV_ain, mdF, mRun, List.mem_cons, List.not_mem_nil, or_false, mtab_eq, Nat.reduceEqDiff, Nat.zero_add, f2, a2, w2, mset2, b10, b00, not_true_eq_false, not_false_eq_true, true_implies, false_implies, implies_true, and_true, true_and, Nat.le_refl, true_or, or_true, eq_self, List.length_cons, List.length_nil, Nat.reduceAdd, Nat.reduceLT, Nat.reduceLeDiff]
  refine MW.tbld (v := 100) (MW.dec gd_J1_indexOfChar_4cfef (pc := 16) rfl) v2 rfl (MW.run gd_J1_indexOfChar_4cfef [16] 14 ?_)
  by_cases c3 : b = 100
  · rw [if_pos c3] at hp
    have f3 : ((100 : Int32) = y) = True := eq_true (y3.mpr c3)
    simp (disch := omega) only [↓EVk, ↓w_if_eq, ↓w_an_ite, ↓mEndK, ↓w_retK0, ↓w_fitK, ↓w_dupK, ↓w_dup2K, w_an_back, ↓EVd, ↓ft_J1_indexOfChar_4cfef, ↓reduceIte, ↓EV_obs, ↓EV_obn, ↓EV_ais, ↓EV_ain, mdF, mRun, List.mem_cons, List.not_mem_nil, or_false, mtab_eq, Nat.reduceEqDiff, Nat.zero_add, f3, mset2, b10, b00, not_true_eq_false, not_false_eq_true, true_implies, false_implies, implies_true, and_true, true_and, Nat.le_refl, true_or, or_true, eq_self, List.length_cons, List.length_nil, Nat.reduceAdd, Nat.reduceLT, Nat.reduceLeDiff]
    exact hp
  rw [if_neg c3] at hp
  have f3 : ((100 : Int32) = y) = False := eq_false (fun z => c3 (y3.mp z))
  simp (disch := omega) only [↓EVk, ↓w_if_eq, ↓w_an_ite, ↓mEndK, ↓w_retK0, ↓w_fitK, ↓w_dupK, ↓w_dup2K, w_an_back, ↓EVd, ↓ft_J1_indexOfChar_4cfef, ↓reduceIte, ↓EV_obs, ↓EV_obn, ↓EV_ais, ↓EV_ain, mdF, mRun, List.mem_cons, List.not_mem_nil, or_false, mtab_eq, Nat.reduceEqDiff, Nat.zero_add, f3, a3, w3, mset2, b10, b00, not_true_eq_false, not_false_eq_true, true_implies, false_implies, implies_true, and_true, true_and, Nat.le_refl, true_or, or_true, eq_self, List.length_cons, List.length_nil, Nat.reduceAdd, Nat.reduceLT, Nat.reduceLeDiff]
  exact hp
set_option maxRecDepth 10000 in
theorem j_canEncode {b : Nat} (hb : b < 256) (hp : post (some (.int 1)) h) : MC G MJ1_canEncode_9a6ad d 0 0 [.int (nI b)] h N post := by
  have w0 : (nI b < 0) = False := eq_false (by simp (disch := omega) only [z_nI, z_lit, z_neg, z_add, z_sub, z_mul, z_lt, z_le, z_eq, z_in, z_cl]; omega)
  have w1 : ((255 : Int32) < nI b) = False := eq_false (by simp (disch := omega) only [z_nI, z_lit, z_neg, z_add, z_sub, z_mul, z_lt, z_le, z_eq, z_in, z_cl]; omega)
  refine MC.of (L0 := [some (.int (nI b))]) gd_J1_canEncode_9a6ad (Nat.le_of_ble_eq_true rfl) rfl (MW.run gd_J1_canEncode_9a6ad [] 12 ?_)
  simp (disch := omega) only [↓EVk, ↓w_if_eq, ↓w_an_ite, ↓mEndK, ↓w_retK0, ↓w_fitK, ↓w_dupK, ↓w_dup2K, w_an_back, ↓EVd, ↓ft_J1_canEncode_9a6ad, ↓reduceIte, ↓EV_obs, ↓EV_obn, ↓EV_ais, ↓EV_ain, mdF, mRun, List.mem_cons, List.not_mem_nil, or_false, mtab_eq, Nat.reduceEqDiff, Nat.zero_add, w0, w1, mset2, b10, b00, not_true_eq_false, not_false_eq_true, true_implies, false_implies, implies_true, and_true, true_and, Nat.le_refl, true_or, or_true, eq_self, List.length_cons, List.length_nil, Nat.reduceAdd, Nat.reduceLT, Nat.reduceLeDiff]
  exact hp
set_option maxRecDepth 10000 in
theorem j_indexOfL {b : Nat} (hd : 1 ≤ d) (hb : b < 256) (hp : post (some (.int (ixN b))) h) : MC G MJ1_indexOf_4cfef d 0 0 [.ref (sV G), .int (nI b), .int 0, .int 3] h N post := by
  have m1 : (if (0 : Int32) < 0 then (0 : Int32) else 0) = 0 := rfl
  have m2 : (if (3 : Int32) < 3 then (3 : Int32) else 3) = 3 := rfl
  have w1 : ((0 : Int32) < 3) = True := eq_true (by decide)
  refine MC.of (L0 := [some (.ref (sV G)), some (.int (nI b)), some (.int 0), some (.int 3)]) gd_J1_indexOf_4cfef (Nat.le_of_ble_eq_true rfl) rfl (MW.run gd_J1_indexOf_4cfef [17] 20 ?_)
  simp (disch := omega) only [↓EVk, ↓w_if_eq, ↓w_an_ite, ↓mEndK, ↓w_retK0, ↓w_fitK, ↓w_dupK, ↓w_dup2K, w_an_back, ↓EVd, ↓ft_J1_indexOf_4cfef, ↓reduceIte, ↓EV_obs, ↓EV_obn, ↓EV_ais, ↓EV_ain, mdF, mRun, List.mem_cons, List.not_mem_nil, or_false, mtab_eq, Nat.reduceEqDiff, Nat.zero_add, hd, mset2, b10, b00, not_true_eq_false, not_false_eq_true, true_implies, false_implies, implies_true, and_true, true_and, Nat.le_refl, true_or, or_true, eq_self, List.length_cons, List.length_nil, Nat.reduceAdd, Nat.reduceLT, Nat.reduceLeDiff]
  refine j_canEncode hb ?_
  simp (disch := omega) only [↓EVk, ↓w_if_eq, ↓w_an_ite, ↓mEndK, ↓w_retK0, ↓w_fitK, ↓w_dupK, ↓w_dup2K, w_an_back, ↓EVd, ↓ft_J1_indexOf_4cfef, ↓reduceIte, ↓EV_obs, ↓EV_obn, ↓EV_ais, ↓EV_ain, mdF, mRun, List.mem_cons, List.not_mem_nil, or_false, mtab_eq, Nat.reduceEqDiff, Nat.zero_add, hd, m1, mset2, b10, b00, not_true_eq_false, not_false_eq_true, true_implies, false_implies, implies_true, and_true, true_and, Nat.le_refl, true_or, or_true, eq_self, List.length_cons, List.length_nil, Nat.reduceAdd, Nat.reduceLT, Nat.reduceLeDiff]
  refine MW.tlen (MW.dec gd_J1_indexOf_4cfef (pc := 17) rfl) (MW.run gd_J1_indexOf_4cfef [17] 20 ?_)
  simp (disch := omega) only [↓EVk, ↓w_if_eq, ↓w_an_ite, ↓mEndK, ↓w_retK0, ↓w_fitK, ↓w_dupK, ↓w_dup2K, w_an_back, ↓EVd, ↓ft_J1_indexOf_4cfef, ↓reduceIte, ↓EV_obs, ↓EV_obn, ↓EV_ais, ↓EV_ain, mdF, mRun, List.mem_cons, List.not_mem_nil, or_false, mtab_eq, Nat.reduceEqDiff, Nat.zero_add, hd, m2, w1, mset2, b10, b00, not_true_eq_false, not_false_eq_true, true_implies, false_implies, implies_true, and_true, true_and, Nat.le_refl, true_or, or_true, eq_self, List.length_cons, List.length_nil, Nat.reduceAdd, Nat.reduceLT, Nat.reduceLeDiff]
  refine j_indexOfChar hb ?_
  simp (disch := omega) only [↓EVk, ↓w_if_eq, ↓w_an_ite, ↓mEndK, ↓w_retK0, ↓w_fitK, ↓w_dupK, ↓w_dup2K, w_an_back, ↓EVd, ↓ft_J1_indexOf_4cfef, ↓reduceIte, ↓EV_obs, ↓EV_obn, ↓EV_ais, ↓EV_ain, mdF, mRun, List.mem_cons, List.not_mem_nil, or_false, mtab_eq, Nat.reduceEqDiff, Nat.zero_add, mset2, b10, b00, not_true_eq_false, not_false_eq_true, true_implies, false_implies, implies_true, and_true, true_and, Nat.le_refl, true_or, or_true, eq_self, List.length_cons, List.length_nil, Nat.reduceAdd, Nat.reduceLT, Nat.reduceLeDiff]
  exact hp
set_option maxRecDepth 10000 in
theorem j_coder (hp : post (some (.int 0)) h) : MC G MJ0_coder_7d493 d 0 0 [.ref (sK G)] h N post := by
  refine MC.of (L0 := [some (.ref (sK G))]) gd_J0_coder_7d493 (Nat.le_of_ble_eq_true rfl) rfl ?_
  refine MW.gets rfl (MW.dec gd_J0_coder_7d493 (pc := 0) rfl) (MW.run gd_J0_coder_7d493 [7, 14] 8 ?_)
  simp (disch := omega) only [↓EVk, ↓w_if_eq, ↓w_an_ite, ↓mEndK, ↓w_retK0, ↓w_fitK, ↓w_dupK, ↓w_dup2K, w_an_back, ↓EVd, ↓ft_J0_coder_7d493, ↓reduceIte, ↓EV_obs, ↓EV_obn, ↓EV_ais, ↓EV_ain, mdF, mRun, List.mem_cons, List.not_mem_nil, or_false, mtab_eq, Nat.reduceEqDiff, Nat.zero_add, b10, mset2, b10, b00, not_true_eq_false, not_false_eq_true, true_implies, false_implies, implies_true, and_true, true_and, Nat.le_refl, true_or, or_true, eq_self, List.length_cons, List.length_nil, Nat.reduceAdd, Nat.reduceLT, Nat.reduceLeDiff]
  refine MW.strc rfl (MW.dec gd_J0_coder_7d493 (pc := 7) rfl) (MW.run gd_J0_coder_7d493 [7, 14] 8 ?_)
  simp (disch := omega) only [↓EVk, ↓w_if_eq, ↓w_an_ite, ↓mEndK, ↓w_retK0, ↓w_fitK, ↓w_dupK, ↓w_dup2K, w_an_back, ↓EVd, ↓ft_J0_coder_7d493, ↓reduceIte, ↓EV_obs, ↓EV_obn, ↓EV_ais, ↓EV_ain, mdF, mRun, List.mem_cons, List.not_mem_nil, or_false, mtab_eq, Nat.reduceEqDiff, Nat.zero_add, mset2, b10, b00, not_true_eq_false, not_false_eq_true, true_implies, false_implies, implies_true, and_true, true_and, Nat.le_refl, true_or, or_true, eq_self, List.length_cons, List.length_nil, Nat.reduceAdd, Nat.reduceLT, Nat.reduceLeDiff]
  exact MW.bret rfl rfl (MW.dec gd_J0_coder_7d493 (pc := 14) rfl) ⟨rfl, Nat.le_refl _, hp⟩
set_option maxRecDepth 10000 in
theorem j_isLatin1 (hp : post (some (.int 1)) h) : MC G MJ0_isLatin1_aae02 d 0 0 [.ref (sK G)] h N post := by
  refine MC.of (L0 := [some (.ref (sK G))]) gd_J0_isLatin1_aae02 (Nat.le_of_ble_eq_true rfl) rfl ?_
  refine MW.gets rfl (MW.dec gd_J0_isLatin1_aae02 (pc := 0) rfl) (MW.run gd_J0_isLatin1_aae02 [7] 8 ?_)
  simp (disch := omega) only [↓EVk, ↓w_if_eq, ↓w_an_ite, ↓mEndK, ↓w_retK0, ↓w_fitK, ↓w_dupK, ↓w_dup2K, w_an_back, ↓EVd, ↓ft_J0_isLatin1_aae02, ↓reduceIte, ↓EV_obs, ↓EV_obn, ↓EV_ais, ↓EV_ain, mdF, mRun, List.mem_cons, List.not_mem_nil, or_false, mtab_eq, Nat.reduceEqDiff, Nat.zero_add, b10, mset2, b10, b00, not_true_eq_false, not_false_eq_true, true_implies, false_implies, implies_true, and_true, true_and, Nat.le_refl, true_or, or_true, eq_self, List.length_cons, List.length_nil, Nat.reduceAdd, Nat.reduceLT, Nat.reduceLeDiff]
  refine MW.strc rfl (MW.dec gd_J0_isLatin1_aae02 (pc := 7) rfl) (MW.run gd_J0_isLatin1_aae02 [7] 8 ?_)
  simp (disch := omega) only [↓EVk, ↓w_if_eq, ↓w_an_ite, ↓mEndK, ↓w_retK0, ↓w_fitK, ↓w_dupK, ↓w_dup2K, w_an_back, ↓EVd, ↓ft_J0_isLatin1_aae02, ↓reduceIte, ↓EV_obs, ↓EV_obn, ↓EV_ais, ↓EV_ain, mdF, mRun, List.mem_cons, List.not_mem_nil, or_false, mtab_eq, Nat.reduceEqDiff, Nat.zero_add, mset2, b10, b00, not_true_eq_false, not_false_eq_true, true_implies, false_implies, implies_true, and_true, true_and, Nat.le_refl, true_or, or_true, eq_self, List.length_cons, List.length_nil, Nat.reduceAdd, Nat.reduceLT, Nat.reduceLeDiff]
  exact hp
set_option maxRecDepth 10000 in
theorem j_length (hd : 1 ≤ d) (hp : post (some (.int 3)) h) : MC G MJ0_length_8abf5 d 0 0 [.ref (sK G)] h N post := by
  have e3 : (3 : Int32) >>> ((0 : Int32) &&& 31) = 3 := by decide
  refine MC.of (L0 := [some (.ref (sK G))]) gd_J0_length_8abf5 (Nat.le_of_ble_eq_true rfl) rfl (MW.run gd_J0_length_8abf5 [1, 4, 6] 8 ?_)
  simp (disch := omega) only [↓EVk, ↓w_if_eq, ↓w_an_ite, ↓mEndK, ↓w_retK0, ↓w_fitK, ↓w_dupK, ↓w_dup2K, w_an_back, ↓EVd, ↓ft_J0_length_8abf5, ↓reduceIte, ↓EV_obs, ↓EV_obn, ↓EV_ais, ↓EV_ain, mdF, mRun, List.mem_cons, List.not_mem_nil, or_false, mtab_eq, Nat.reduceEqDiff, Nat.zero_add, mset2, b10, b00, not_true_eq_false, not_false_eq_true, true_implies, false_implies, implies_true, and_true, true_and, Nat.le_refl, true_or, or_true, eq_self, List.length_cons, List.length_nil, Nat.reduceAdd, Nat.reduceLT, Nat.reduceLeDiff]
  refine MW.strv rfl (MW.dec gd_J0_length_8abf5 (pc := 1) rfl) ?_
  refine MW.tlen (MW.dec gd_J0_length_8abf5 (pc := 4) rfl) (MW.run gd_J0_length_8abf5 [6] 8 ?_)
  simp (disch := omega) only [↓EVk, ↓w_if_eq, ↓w_an_ite, ↓mEndK, ↓w_retK0, ↓w_fitK, ↓w_dupK, ↓w_dup2K, w_an_back, ↓EVd, ↓ft_J0_length_8abf5, ↓reduceIte, ↓EV_obs, ↓EV_obn, ↓EV_ais, ↓EV_ain, mdF, mRun, List.mem_cons, List.not_mem_nil, or_false, mtab_eq, Nat.reduceEqDiff, Nat.zero_add, mset2, b10, b00, not_true_eq_false, not_false_eq_true, true_implies, false_implies, implies_true, and_true, true_and, Nat.le_refl, true_or, or_true, eq_self, List.length_cons, List.length_nil, Nat.reduceAdd, Nat.reduceLT, Nat.reduceLeDiff]
  refine MW.callVs (a := 180) (b := 0) (As := []) (r := [.int 3]) (d := d) (post := fun rv h' => rv = some (.int 0) ∧ h' = h) ⟨Nat.le_refl _, Nat.le_refl _⟩ hd (Nat.le_of_ble_eq_true rfl) rfl (mlink (a := 180) (by decide +kernel)) (mword (by decide +kernel)) (List.mem_filter.mpr ⟨strS.2.2.2.2, rfl⟩) rfl (MW.dec gd_J0_length_8abf5 (pc := 6) rfl) (j_coder ⟨rfl, rfl⟩) (fun rv h' q => ?_)
  obtain ⟨rfl, rfl⟩ := q
  refine MW.run gd_J0_length_8abf5 [] 8 ?_
  simp (disch := omega) only [↓EVk, ↓w_if_eq, ↓w_an_ite, ↓mEndK, ↓w_retK0, ↓w_fitK, ↓w_dupK, ↓w_dup2K, w_an_back, ↓EVd, ↓ft_J0_length_8abf5, ↓reduceIte, ↓EV_obs, ↓EV_obn, ↓EV_ais, ↓EV_ain, mdF, mRun, List.mem_cons, List.not_mem_nil, or_false, mtab_eq, Nat.reduceEqDiff, Nat.zero_add, Option.toList, List.cons_append, List.nil_append, e3, mset2, b10, b00, not_true_eq_false, not_false_eq_true, true_implies, false_implies, implies_true, and_true, true_and, Nat.le_refl, true_or, or_true, eq_self, List.length_cons, List.length_nil, Nat.reduceAdd, Nat.reduceLT, Nat.reduceLeDiff]
  exact hp
set_option maxRecDepth 10000 in
theorem j_indexOf2 {b : Nat} (hd : 2 ≤ d) (hb : b < 256) (hp : post (some (.int (ixN b))) h) : MC G MJ0_indexOf_7cf53 d 0 0 [.ref (sK G), .int (nI b), .int 0] h N post := by
  have hd1 : 1 ≤ d := by omega
  refine MC.of (L0 := [some (.ref (sK G)), some (.int (nI b)), some (.int 0)]) gd_J0_indexOf_7cf53 (Nat.le_of_ble_eq_true rfl) rfl (MW.run gd_J0_indexOf_7cf53 [1, 8, 14] 12 ?_)
  simp (disch := omega) only [↓EVk, ↓w_if_eq, ↓w_an_ite, ↓mEndK, ↓w_retK0, ↓w_fitK, ↓w_dupK, ↓w_dup2K, w_an_back, ↓EVd, ↓ft_J0_indexOf_7cf53, ↓reduceIte, ↓EV_obs, ↓EV_obn, ↓EV_ais, ↓EV_ain, mdF, mRun, List.mem_cons, List.not_mem_nil, or_false, mtab_eq, Nat.reduceEqDiff, Nat.zero_add, mset2, b10, b00, not_true_eq_false, not_false_eq_true, true_implies, false_implies, implies_true, and_true, true_and, Nat.le_refl, true_or, or_true, eq_self, List.length_cons, List.length_nil, Nat.reduceAdd, Nat.reduceLT, Nat.reduceLeDiff]
  refine MW.callVs (a := 181) (b := 0) (As := []) (r := []) (d := d) (post := fun rv h' => rv = some (.int 1) ∧ h' = h) ⟨Nat.le_refl _, Nat.le_refl _⟩ hd1 (Nat.le_of_ble_eq_true rfl) rfl (mlink (a := 181) (by decide +kernel)) (mword (by decide +kernel)) (List.mem_filter.mpr ⟨strS.2.2.1, rfl⟩) rfl (MW.dec gd_J0_indexOf_7cf53 (pc := 1) rfl) (j_isLatin1 ⟨rfl, rfl⟩) (fun rv h' q => ?_)
  obtain ⟨rfl, rfl⟩ := q
  refine MW.run gd_J0_indexOf_7cf53 [8, 14] 12 ?_
  simp (disch := omega) only [↓EVk, ↓w_if_eq, ↓w_an_ite, ↓mEndK, ↓w_retK0, ↓w_fitK, ↓w_dupK, ↓w_dup2K, w_an_back, ↓EVd, ↓ft_J0_indexOf_7cf53, ↓reduceIte, ↓EV_obs, ↓EV_obn, ↓EV_ais, ↓EV_ain, mdF, mRun, List.mem_cons, List.not_mem_nil, or_false, mtab_eq, Nat.reduceEqDiff, Nat.zero_add, Option.toList, List.cons_append, List.nil_append, b10, mset2, b10, b00, not_true_eq_false, not_false_eq_true, true_implies, false_implies, implies_true, and_true, true_and, Nat.le_refl, true_or, or_true, eq_self, List.length_cons, List.length_nil, Nat.reduceAdd, Nat.reduceLT, Nat.reduceLeDiff]
  refine MW.strv rfl (MW.dec gd_J0_indexOf_7cf53 (pc := 8) rfl) (MW.run gd_J0_indexOf_7cf53 [8, 14] 12 ?_)
  simp (disch := omega) only [↓EVk, ↓w_if_eq, ↓w_an_ite, ↓mEndK, ↓w_retK0, ↓w_fitK, ↓w_dupK, ↓w_dup2K, w_an_back, ↓EVd, ↓ft_J0_indexOf_7cf53, ↓reduceIte, ↓EV_obs, ↓EV_obn, ↓EV_ais, ↓EV_ain, mdF, mRun, List.mem_cons, List.not_mem_nil, or_false, mtab_eq, Nat.reduceEqDiff, Nat.zero_add, mset2, b10, b00, not_true_eq_false, not_false_eq_true, true_implies, false_implies, implies_true, and_true, true_and, Nat.le_refl, true_or, or_true, eq_self, List.length_cons, List.length_nil, Nat.reduceAdd, Nat.reduceLT, Nat.reduceLeDiff]
  refine MW.callVs (a := 177) (b := 0) (As := []) (r := [.int 0, .int (nI b), .ref (sV G)]) (d := d) (post := fun rv h2 => rv = some (.int 3) ∧ h2 = h') ⟨Nat.le_refl _, Nat.le_refl _⟩ hd1 (Nat.le_of_ble_eq_true rfl) rfl (mlink (a := 177) (by decide +kernel)) (mword (by decide +kernel)) (List.mem_filter.mpr ⟨strS.2.2.2.1, rfl⟩) rfl (MW.dec gd_J0_indexOf_7cf53 (pc := 14) rfl) (j_length (by omega) ⟨rfl, rfl⟩) (fun rv h2 q => ?_)
  obtain ⟨rfl, rfl⟩ := q
  refine MW.run gd_J0_indexOf_7cf53 [] 12 ?_
  simp (disch := omega) only [↓EVk, ↓w_if_eq, ↓w_an_ite, ↓mEndK, ↓w_retK0, ↓w_fitK, ↓w_dupK, ↓w_dup2K, w_an_back, ↓EVd, ↓ft_J0_indexOf_7cf53, ↓reduceIte, ↓EV_obs, ↓EV_obn, ↓EV_ais, ↓EV_ain, mdF, mRun, List.mem_cons, List.not_mem_nil, or_false, mtab_eq, Nat.reduceEqDiff, Nat.zero_add, Option.toList, List.cons_append, List.nil_append, hd1, mset2, b10, b00, not_true_eq_false, not_false_eq_true, true_implies, false_implies, implies_true, and_true, true_and, Nat.le_refl, true_or, or_true, eq_self, List.length_cons, List.length_nil, Nat.reduceAdd, Nat.reduceLT, Nat.reduceLeDiff]
  refine j_indexOfL (by omega) hb ?_
  simp (disch := omega) only [↓EVk, ↓w_if_eq, ↓w_an_ite, ↓mEndK, ↓w_retK0, ↓w_fitK, ↓w_dupK, ↓w_dup2K, w_an_back, ↓EVd, ↓ft_J0_indexOf_7cf53, ↓reduceIte, ↓EV_obs, ↓EV_obn, ↓EV_ais, ↓EV_ain, mdF, mRun, List.mem_cons, List.not_mem_nil, or_false, mtab_eq, Nat.reduceEqDiff, Nat.zero_add, mset2, b10, b00, not_true_eq_false, not_false_eq_true, true_implies, false_implies, implies_true, and_true, true_and, Nat.le_refl, true_or, or_true, eq_self, List.length_cons, List.length_nil, Nat.reduceAdd, Nat.reduceLT, Nat.reduceLeDiff]
  exact hp
set_option maxRecDepth 10000 in
theorem j_indexOf1 {b : Nat} (hd : 3 ≤ d) (hb : b < 256) (hp : post (some (.int (ixN b))) h) : MC G MJ0_indexOf_0f7a4 d 0 0 [.ref (sK G), .int (nI b)] h N post := by
  have hd1 : 1 ≤ d := by omega
  refine MC.of (L0 := [some (.ref (sK G)), some (.int (nI b))]) gd_J0_indexOf_0f7a4 (Nat.le_of_ble_eq_true rfl) rfl (MW.run gd_J0_indexOf_0f7a4 [3] 12 ?_)
  simp (disch := omega) only [↓EVk, ↓w_if_eq, ↓w_an_ite, ↓mEndK, ↓w_retK0, ↓w_fitK, ↓w_dupK, ↓w_dup2K, w_an_back, ↓EVd, ↓ft_J0_indexOf_0f7a4, ↓reduceIte, ↓EV_obs, ↓EV_obn, ↓EV_ais, ↓EV_ain, mdF, mRun, List.mem_cons, List.not_mem_nil, or_false, mtab_eq, Nat.reduceEqDiff, Nat.zero_add, mset2, b10, b00, not_true_eq_false, not_false_eq_true, true_implies, false_implies, implies_true, and_true, true_and, Nat.le_refl, true_or, or_true, eq_self, List.length_cons, List.length_nil, Nat.reduceAdd, Nat.reduceLT, Nat.reduceLeDiff]
  refine MW.callVs (a := 179) (b := 2) (As := [.int (nI b), .int 0]) (r := []) (d := d) (post := fun rv h' => rv = some (.int (ixN b)) ∧ h' = h) ⟨Nat.le_refl _, Nat.le_refl _⟩ hd1 (Nat.le_of_ble_eq_true rfl) rfl (mlink (a := 179) (by decide +kernel)) (mword (by decide +kernel)) (List.mem_filter.mpr ⟨strS.2.1, rfl⟩) rfl (MW.dec gd_J0_indexOf_0f7a4 (pc := 3) rfl) (j_indexOf2 (by omega) hb ⟨rfl, rfl⟩) (fun rv h' q => ?_)
  obtain ⟨rfl, rfl⟩ := q
  refine MW.run gd_J0_indexOf_0f7a4 [] 12 ?_
  simp (disch := omega) only [↓EVk, ↓w_if_eq, ↓w_an_ite, ↓mEndK, ↓w_retK0, ↓w_fitK, ↓w_dupK, ↓w_dup2K, w_an_back, ↓EVd, ↓ft_J0_indexOf_0f7a4, ↓reduceIte, ↓EV_obs, ↓EV_obn, ↓EV_ais, ↓EV_ain, mdF, mRun, List.mem_cons, List.not_mem_nil, or_false, mtab_eq, Nat.reduceEqDiff, Nat.zero_add, Option.toList, List.cons_append, List.nil_append, mset2, b10, b00, not_true_eq_false, not_false_eq_true, true_implies, false_implies, implies_true, and_true, true_and, Nat.le_refl, true_or, or_true, eq_self, List.length_cons, List.length_nil, Nat.reduceAdd, Nat.reduceLT, Nat.reduceLeDiff]
  exact hp
set_option maxRecDepth 10000 in
theorem RL_ok (G : mG) : RLs G := by
  intro d N T p tp k t x h post hd hT hp hdg hpost
  have hd1 : 1 ≤ d := by omega
  obtain ⟨⟨Bt, ⟨t0, t1⟩, tb⟩, h120, h256⟩ := id hT
  have eb := tb p hp
  have b256 := h256 p hp
  have cp : (nI p).toNatClampNeg = p := nI_clamp (by omega)
  have vp : vp_in (nI p) 120 := vp_in_nI (by omega) (by decide)
  have ec := c_eq b256
  refine MC.of (L0 := [some (.ref T)]) gd_X4_readLetter (Nat.le_of_ble_eq_true rfl) rfl (MW.run gd_X4_readLetter [1, 17] 16 ?_)
  simp (disch := omega) only [↓EVk, ↓w_if_eq, ↓w_an_ite, ↓mEndK, ↓w_retK0, ↓w_fitK, ↓w_dupK, ↓w_dup2K, w_an_back, ↓EVd, ↓ft_X4_readLetter, ↓reduceIte, ↓EV_obs, ↓EV_obn, ↓EV_ais, ↓EV_ain, mdF, mRun, List.mem_cons, List.not_mem_nil, or_false, mtab_eq, Nat.reduceEqDiff, Nat.zero_add, mset2, b10, b00, not_true_eq_false, not_false_eq_true, true_implies, false_implies, implies_true, and_true, true_and, Nat.le_refl, true_or, or_true, eq_self, List.length_cons, List.length_nil, Nat.reduceAdd, Nat.reduceLT, Nat.reduceLeDiff]
  refine MW.ldcS rfl (MW.dec gd_X4_readLetter (pc := 1) rfl) (MW.run gd_X4_readLetter [17] 16 ?_)
  simp (disch := omega) only [↓EVk, ↓w_if_eq, ↓w_an_ite, ↓mEndK, ↓w_retK0, ↓w_fitK, ↓w_dupK, ↓w_dup2K, w_an_back, ↓EVd, ↓ft_X4_readLetter, ↓reduceIte, ↓EV_obs, ↓EV_obn, ↓EV_ais, ↓EV_ain, ↓EV_ob t0, ↓EV_ai t1, mdF, mRun, List.mem_cons, List.not_mem_nil, or_false, mtab_eq, Nat.reduceEqDiff, Nat.zero_add, cp, vp, eb, ec, mset2, b10, b00, not_true_eq_false, not_false_eq_true, true_implies, false_implies, implies_true, and_true, true_and, Nat.le_refl, true_or, or_true, eq_self, List.length_cons, List.length_nil, Nat.reduceAdd, Nat.reduceLT, Nat.reduceLeDiff]
  refine MW.callVs (a := 178) (b := 1) (As := [.int (nI (tp.getD p 0))]) (r := [.ref T]) (d := d) (post := fun rv h' => rv = some (.int (ixN (tp.getD p 0))) ∧ h' = h) ⟨Nat.le_refl _, Nat.le_refl _⟩ hd1 (Nat.le_of_ble_eq_true rfl) rfl (mlink (a := 178) (by decide +kernel)) (mword (by decide +kernel)) (List.mem_filter.mpr ⟨strS.1, rfl⟩) rfl (MW.dec gd_X4_readLetter (pc := 17) rfl) (j_indexOf1 (by omega) b256 ⟨rfl, rfl⟩) (fun rv h' q => ?_)
  obtain ⟨rfl, rfl⟩ := q
  -- what is told
  have tR : tokR tp p = (if tp.getD p 0 = 98 then (1, 0, p + 1) else if tp.getD p 0 = 120 then (1, 1, p + 1) else if tp.getD p 0 = 100 then (1, 2, p + 1) else (3, 0, p)) := by
    unfold tokR
    rw [if_pos hp, if_neg hdg]
  have fin : ∀ y kk : Int32, y = ixN (tp.getD p 0) → kk = nI (ckS (tokR tp p).1) → ((tokR tp p).1 = 1 → y = nI (tokR tp p).2.1) → post none (mset h' T (.inr (4, [.ref (T + 1), .int (nI tp.length), .int (nI (p + 1)), .int kk, .int t, .int y]))) := by
    intro y kk hy hkk h1
    refine hpost _ (nI (p + 1)) kk y ⟨⟨Bt, ⟨mset_same, by rw [mset_ne (by omega)]; exact t1⟩, tb⟩, h120, h256⟩ hkk (fun z => ⟨?_, h1 z⟩) (fun q hq => mset_ne (by omega))
    rw [tR] at z ⊢
    split at z <;> try split at z <;> try split at z
    all_goals first | rfl | (exfalso; simp at z; done) | simp_all
  refine MW.run gd_X4_readLetter [] 24 ?_
  have e1 : ∀ v : Int32, Option.toList (some (Value.int v)) ++ [Value.ref T] = [Value.int v, Value.ref T] := fun v => rfl
  rw [e1]
  unfold ixN at fin ⊢
  by_cases c1 : tp.getD p 0 = 98
  · simp only [c1, ↓reduceIte] at fin tR ⊢
    have w : ((0 : Int32) ≤ 0) = True := eq_true (by decide)
    simp (disch := omega) only [↓EVk, ↓w_if_eq, ↓w_an_ite, ↓mEndK, ↓w_retK0, ↓w_fitK, ↓w_dupK, ↓w_dup2K, w_an_back, ↓EVd, ↓ft_X4_readLetter, ↓reduceIte, ↓EV_obs, ↓EV_obn, ↓EV_ais, ↓EV_ain, ↓EV_ob t0, mdF, mRun, List.mem_cons, List.not_mem_nil, or_false, mtab_eq, Nat.reduceEqDiff, Nat.zero_add, w, nI_1, mset2, mset2, b10, b00, not_true_eq_false, not_false_eq_true, true_implies, false_implies, implies_true, and_true, true_and, Nat.le_refl, true_or, or_true, eq_self, List.length_cons, List.length_nil, Nat.reduceAdd, Nat.reduceLT, Nat.reduceLeDiff]
    exact fin _ _ rfl (by rw [tR]; rfl) (fun _ => by rw [tR]; rfl)
  by_cases c2 : tp.getD p 0 = 120
  · have n1 : ¬ (120 : Nat) = 98 := by decide
    simp only [c2, n1, ↓reduceIte] at fin tR ⊢
    have w : ((0 : Int32) ≤ 1) = True := eq_true (by decide)
    simp (disch := omega) only [↓EVk, ↓w_if_eq, ↓w_an_ite, ↓mEndK, ↓w_retK0, ↓w_fitK, ↓w_dupK, ↓w_dup2K, w_an_back, ↓EVd, ↓ft_X4_readLetter, ↓reduceIte, ↓EV_obs, ↓EV_obn, ↓EV_ais, ↓EV_ain, ↓EV_ob t0, mdF, mRun, List.mem_cons, List.not_mem_nil, or_false, mtab_eq, Nat.reduceEqDiff, Nat.zero_add, w, nI_1, mset2, mset2, b10, b00, not_true_eq_false, not_false_eq_true, true_implies, false_implies, implies_true, and_true, true_and, Nat.le_refl, true_or, or_true, eq_self, List.length_cons, List.length_nil, Nat.reduceAdd, Nat.reduceLT, Nat.reduceLeDiff]
    exact fin _ _ rfl (by rw [tR]; rfl) (fun _ => by rw [tR]; rfl)
  by_cases c3 : tp.getD p 0 = 100
  · have n1 : ¬ (100 : Nat) = 98 := by decide
    have n2 : ¬ (100 : Nat) = 120 := by decide
    simp only [c3, n1, n2, ↓reduceIte] at fin tR ⊢
    have w : ((0 : Int32) ≤ 2) = True := eq_true (by decide)
    simp (disch := omega) only [↓EVk, ↓w_if_eq, ↓w_an_ite, ↓mEndK, ↓w_retK0, ↓w_fitK, ↓w_dupK, ↓w_dup2K, w_an_back, ↓EVd, ↓ft_X4_readLetter, ↓reduceIte, ↓EV_obs, ↓EV_obn, ↓EV_ais, ↓EV_ain, ↓EV_ob t0, mdF, mRun, List.mem_cons, List.not_mem_nil, or_false, mtab_eq, Nat.reduceEqDiff, Nat.zero_add, w, nI_1, mset2, mset2, b10, b00, not_true_eq_false, not_false_eq_true, true_implies, false_implies, implies_true, and_true, true_and, Nat.le_refl, true_or, or_true, eq_self, List.length_cons, List.length_nil, Nat.reduceAdd, Nat.reduceLT, Nat.reduceLeDiff]
    exact fin _ _ rfl (by rw [tR]; rfl) (fun _ => by rw [tR]; rfl)
  · simp only [c1, c2, c3, ↓reduceIte] at fin tR ⊢
    have w : ((0 : Int32) ≤ -1) = False := eq_false (by decide)
    simp (disch := omega) only [↓EVk, ↓w_if_eq, ↓w_an_ite, ↓mEndK, ↓w_retK0, ↓w_fitK, ↓w_dupK, ↓w_dup2K, w_an_back, ↓EVd, ↓ft_X4_readLetter, ↓reduceIte, ↓EV_obs, ↓EV_obn, ↓EV_ais, ↓EV_ain, ↓EV_ob t0, mdF, mRun, List.mem_cons, List.not_mem_nil, or_false, mtab_eq, Nat.reduceEqDiff, Nat.zero_add, w, nI_1, mset2, mset2, b10, b00, not_true_eq_false, not_false_eq_true, true_implies, false_implies, implies_true, and_true, true_and, Nat.le_refl, true_or, or_true, eq_self, List.length_cons, List.length_nil, Nat.reduceAdd, Nat.reduceLT, Nat.reduceLeDiff]
    exact fin _ _ rfl (by rw [tR]; rfl) (fun z => by rw [tR] at z; cases z)
end STR
