/-! one step of wpI is a step of the machine -/
theorem mem_g {w : Cond} {i : Nat} (h : lw_tbl[i]? = some w) (hg : goodWord w = true) : w ∈ lw_g := List.mem_filter.mpr ⟨List.mem_of_getElem? h, hg⟩
theorem good_g {ws : List Cond} (h : ∀ w ∈ ws, w ∈ lw_g) : GoodIn lw_g ws := fun w hw => ⟨h w hw, good_of_word (List.mem_filter.mp (h w hw)).2⟩
theorem u_in_g {ci : Nat} {q : vw_C} (h : vwCl[ci]? = some q) : ∀ w ∈ u_ws q.1 q.2.1 q.2.2, w ∈ lw_g := by
  intro w hw
  refine List.mem_filter.mpr ⟨(cl_facts ci q h).1 w hw, ?_⟩
  unfold u_ws at hw
  obtain ⟨k, -, rfl⟩ := List.mem_map.mp hw
  unfold u_lay
  split <;> rfl
theorem fld_link {own idx a b : Nat} (h : rTabF.any (fun q => q.1 == own && (q.2.1 == idx && (q.2.2.1 == a && q.2.2.2.1 == b))) = true) : ∃ q : vw_C, vwCl[a]? = some q ∧ b < q.2.2 ∧ (q.2.1 b).1 = q.1 ∧ (Cond.fieldLink (mOwn own) idx q.1 (q.2.1 b).2.1 (q.2.1 b).2.2.1 ∈ lw_g ∨ Cond.fieldLinkNest (mOwn own) idx q.1 (q.2.1 b).2.1 (q.2.1 b).2.2.1 "CornerFronts" ∈ lw_n) := by
  obtain ⟨q, hq, h2⟩ := List.any_eq_true.mp h
  simp only [Bool.and_eq_true, beq_iff_eq] at h2
  obtain ⟨rfl, rfl, rfl, rfl⟩ := h2
  have ok := List.all_eq_true.mp tabF_ok q hq
  unfold okF at ok
  split at ok
  next C T n hc =>
    simp only [Bool.and_eq_true, decide_eq_true_eq] at ok
    obtain ⟨o1, o2, o3⟩ := ok
    refine ⟨(C, T, n), hc, o1, o2, ?_⟩
    split at o3
    · exact Or.inl (mem_g (of_decide_eq_true o3) rfl)
    · exact Or.inr (List.mem_filter.mpr ⟨List.mem_of_getElem? (of_decide_eq_true o3), rfl⟩)
  next => cases ok
theorem fld_link0 {own idx a b : Nat} (h : rTabF.any (fun q => q.1 == own && (q.2.1 == idx && (q.2.2.1 == a && (q.2.2.2.1 == b && q.2.2.2.2.1 == 0)))) = true) : ∃ q : vw_C, vwCl[a]? = some q ∧ b < q.2.2 ∧ (q.2.1 b).1 = q.1 ∧ Cond.fieldLink (mOwn own) idx q.1 (q.2.1 b).2.1 (q.2.1 b).2.2.1 ∈ lw_g := by
  obtain ⟨q, hq, h2⟩ := List.any_eq_true.mp h
  simp only [Bool.and_eq_true, beq_iff_eq] at h2
  obtain ⟨rfl, rfl, rfl, rfl, h0⟩ := h2
  have ok := List.all_eq_true.mp tabF_ok q hq
  unfold okF at ok
  split at ok
  next C T n hc =>
    simp only [Bool.and_eq_true, decide_eq_true_eq] at ok
    obtain ⟨o1, o2, o3⟩ := ok
    refine ⟨(C, T, n), hc, o1, o2, ?_⟩
    rw [if_pos h0] at o3
    exact mem_g (of_decide_eq_true o3) rfl
  next => cases ok
theorem mlink {own idx a : Nat} (h : rTabM.any (fun q => q.1 == own && (q.2.1 == idx && (q.2.2.1 == a && q.2.2.2.1 == 0))) = true) : Cond.methodLink (mOwn own) idx (mNm (mtab a)) ∈ lw_g := by
  obtain ⟨q, hq, h2⟩ := List.any_eq_true.mp h
  simp only [Bool.and_eq_true, beq_iff_eq] at h2
  obtain ⟨rfl, rfl, rfl, h0⟩ := h2
  have ok := List.all_eq_true.mp tabM_ok q hq
  unfold okMl at ok
  rw [if_pos h0] at ok
  exact mem_g (of_decide_eq_true ok) rfl
theorem mlinkN {own idx a : Nat} (h : rTabM.any (fun q => q.1 == own && (q.2.1 == idx && q.2.2.1 == a)) = true) : Cond.methodLink (mOwn own) idx (mNm (mtab a)) ∈ lw_g ∨ Cond.methodLinkNest (mOwn own) idx (mNm (mtab a)) "CornerFronts" ∈ lw_n := by
  obtain ⟨q, hq, h2⟩ := List.any_eq_true.mp h
  simp only [Bool.and_eq_true, beq_iff_eq] at h2
  obtain ⟨rfl, rfl, rfl⟩ := h2
  have ok := List.all_eq_true.mp tabM_ok q hq
  unfold okMl at ok
  split at ok
  · exact Or.inl (mem_g (of_decide_eq_true ok) rfl)
  · exact Or.inr (List.mem_filter.mpr ⟨List.mem_of_getElem? (of_decide_eq_true ok), rfl⟩)
theorem slink {own idx a : Nat} (h : rTabS.any (fun q => q.1 == own && (q.2.1 == idx && q.2.2.1 == a)) = true) : Cond.methodLink (mOwn own) idx (spName a) ∈ lw_g := by
  obtain ⟨q, hq, h2⟩ := List.any_eq_true.mp h
  simp only [Bool.and_eq_true, beq_iff_eq] at h2
  obtain ⟨rfl, rfl, rfl⟩ := h2
  have ok := List.all_eq_true.mp tabS_ok q hq
  exact mem_g (of_decide_eq_true ok) rfl
def mWok (a kind b : Nat) : Prop := Cond.code (mNm (mtab a)) (mCd (mtab a)) (mMx (mtab a)) (mRt (mtab a)) ∈ lw_g ∧ (kind = 1 → Cond.static (mNm (mtab a)) ∈ lw_g) ∧ (¬ kind = 1 → Cond.instanceMethod (mNm (mtab a)) ∈ lw_g) ∧ (kind = 0 → Cond.selects (mNm (mtab a)).cls (mNm (mtab a)) (mNm (mtab a)) ∈ lw_g) ∧ Cond.initialized (mNm (mtab a)).cls ∈ lw_g ∧
  ((mNm (mtab a)).cls ≠ "java/lang/invoke/MethodHandle" ∧ (mNm (mtab a)).cls ≠ "java/lang/invoke/VarHandle" ∧ (parseMethodDescriptor (mNm (mtab a)).desc).map (fun d => d.parameters.length) = some b) ∧ (plainFor (mNm (mtab a)) = true ∧ mMx (mtab a) ≤ 45 ∧ mOwn (mCls (mtab a)) = (mNm (mtab a)).cls) ∧ (kind = 2 → (mNm (mtab a)).name = "<init>" ∧ mRt (mtab a) = none) ∧ (kind = 0 → (vwCl[mCls (mtab a)]?).map (fun c => c.1) = some (mNm (mtab a)).cls)
theorem mword {a kind b : Nat} (h : rTabW.any (fun q => q.1 == a && (q.2.1 == kind && q.2.2.1 == b)) = true) : mWok a kind b := by
  obtain ⟨q, hq, h2⟩ := List.any_eq_true.mp h
  simp only [Bool.and_eq_true, beq_iff_eq] at h2
  obtain ⟨rfl, rfl, rfl⟩ := h2
  have hc := tabC q hq
  have ok := tabW_ok q hq
  unfold okW at ok
  simp only [Bool.and_eq_true] at ok
  obtain ⟨o1, o2, o3, o4, o5, o6, o7⟩ := ok
  refine ⟨List.mem_filter.mpr ⟨hc, rfl⟩, fun k => ?_, fun k => ?_, fun k => ?_, mem_g (of_decide_eq_true o3) rfl, of_decide_eq_true o4, of_decide_eq_true o5, fun k => ?_, fun k => ?_⟩
  · rw [if_pos k] at o1
    exact mem_g (of_decide_eq_true o1) rfl
  · rw [if_neg k] at o1
    exact mem_g (of_decide_eq_true o1) rfl
  · rw [if_pos k] at o2
    exact mem_g (of_decide_eq_true o2) rfl
  · rw [if_pos k] at o6
    exact of_decide_eq_true o6
  · rw [if_pos k] at o7
    exact of_decide_eq_true o7
/-! the String constants and the nest mates' words stay -/
theorem gS_call {G : mG} {s U : State} {H : Heap} {locs : List Loc} (h : gS G s s.heap) (hS : va_S (gA G) s.heap H locs) (hU : U.heap = H) (hW : s.WarmedH U.vm) : gS G U U.heap := by
  obtain ⟨h1, h2, h3, h4, h7, h8, h9⟩ := h
  have hk : ∀ a : Nat, a < s.heap.size → ¬ gA G a → U.heap[a]? = s.heap[a]? := fun a ha hn => by rw [hU]; exact hS.2.1 a ha hn
  refine ⟨fun w hw => ?_, (h2.kept hk).moved hW.alike, h3.warm hW, (h4.kept hk).moved hW.alike, h7.moved hW.alike, h8.moved hW.alike, gAI_moved hW.alike h9⟩
  have h5 := h1 w hw
  have h6 := (List.mem_filter.mp hw).2
  unfold isNest at h6
  split at h6
  · exact va_Nw.warmF hW h5
  · exact va_Nw.warmM hW h5
  · cases h6
theorem gS_same {G : mG} {u U : State} (h : gS G u u.heap) (hv : U.vm = u.vm) (hh : U.heap = u.heap) : gS G U U.heap := by
  obtain ⟨h1, h2, h3, h4, h7, h8, h9⟩ := h
  have ha : u.vm.Alike U.vm := by rw [hv]; exact Vm.Alike.refl _
  rw [hh]
  refine ⟨fun w hw => ?_, h2.moved ha, h3.same hv, h4.moved ha, h7.moved ha, h8.moved ha, gAI_moved ha h9⟩
  have h5 := h1 w hw
  have h6 := (List.mem_filter.mp hw).2
  unfold isNest at h6
  split at h6
  · exact va_Nw.same rfl hv.symm h5
  · exact va_Nw.same rfl hv.symm h5
  · cases h6
theorem mIn_blind {G : mG} {h : mH} {N : Nat} {av : List Value} : FrameBlind (va_Pc av (mIn G h N)) := by
  intro a U g mk q
  obtain ⟨q0, q1, qP, qK, qS, qB⟩ := q
  exact ⟨q0, q1, qP, va_K.moved (u := U) (U := U.calling g mk a) (Vm.Alike.refl U.vm) qK, gS_same (U := U.calling g mk a) qS rfl rfl, qB⟩
section MWS
variable {G : mG} {M : mI} {Z : mZ}
theorem MW.go {pc pc' : Nat} {L : mL} {st st' : List Value} {h : mH} {al : mAl}
    (f : ∀ {p : Program} {e : Env} {s : State} {m : MethodId} {args : Array Value} {below : List Frame} {meth : Method} {c : Code} {H : Heap} {locs : List Loc} {Q : State → Prop} {ls : Array Slot}, p.tables.exec = Jvm.exec → c.code = mCd M → mLoc ls (mMx M) L →
      W p G.1 e Z.1 s m args below meth c H locs al.2.1 al.2.2 Q (F0 m pc' ls st') → W p G.1 e Z.1 s m args below meth c H locs al.2.1 al.2.2 Q (F0 m pc ls st)) (k : MW G M Z pc' L st' h al) : MW G M Z pc L st h al :=
  fun p e s m args below meth c C X H locs ls hN hP hS hL => f C.1 C.2.1 hL (k p e s m args below meth c C X H locs ls hN hP hS hL)
theorem MW.br {P : Prop} {pc p1 p2 : Nat} {L : mL} {st st' : List Value} {h : mH} {al : mAl}
    (f : ∀ {p : Program} {e : Env} {s : State} {m : MethodId} {args : Array Value} {below : List Frame} {meth : Method} {c : Code} {H : Heap} {locs : List Loc} {Q : State → Prop} {ls : Array Slot}, p.tables.exec = Jvm.exec → c.code = mCd M →
      (P → W p G.1 e Z.1 s m args below meth c H locs al.2.1 al.2.2 Q (F0 m p1 ls st')) → (¬ P → W p G.1 e Z.1 s m args below meth c H locs al.2.1 al.2.2 Q (F0 m p2 ls st')) → W p G.1 e Z.1 s m args below meth c H locs al.2.1 al.2.2 Q (F0 m pc ls st))
    (k : (P → MW G M Z p1 L st' h al) ∧ (¬ P → MW G M Z p2 L st' h al)) : MW G M Z pc L st h al :=
  fun p e s m args below meth c C X H locs ls hN hP hS hL => f C.1 C.2.1 (fun q => k.1 q p e s m args below meth c C X H locs ls hN hP hS hL) (fun q => k.2 q p e s m args below meth c C X H locs ls hN hP hS hL)
theorem MW.st1 {pc pc' i : Nat} {v : Value} {L : mL} {st st' : List Value} {h : mH} {al : mAl} (hok : mOk1 L i)
    (f : ∀ {p : Program} {e : Env} {s : State} {m : MethodId} {args : Array Value} {below : List Frame} {meth : Method} {c : Code} {H : Heap} {locs : List Loc} {Q : State → Prop} {ls : Array Slot}, p.tables.exec = Jvm.exec → c.code = mCd M → lv_has ls (mMx M) (ent L) →
      (∀ ls' : Array Slot, lv_has ls' (mMx M) ((i, v) :: (ent L).filter (fun q => !(q.1 == i) && !(q.1 + 1 == i && q.2.category == 2))) → W p G.1 e Z.1 s m args below meth c H locs al.2.1 al.2.2 Q (F0 m pc' ls' st')) → W p G.1 e Z.1 s m args below meth c H locs al.2.1 al.2.2 Q (F0 m pc ls st))
    (k : MW G M Z pc' (L.set i (some v)) st' h al) : MW G M Z pc L st h al :=
  fun p e s m args below meth c C X H locs ls hN hP hS hL => f C.1 C.2.1 (mloc_has hL) (fun ls' hl => k p e s m args below meth c C X H locs ls' hN hP hS (mloc_st1 hL.2.1 hok hl))
theorem MW.st2 {pc pc' i : Nat} {v : Value} {L : mL} {st st' : List Value} {h : mH} {al : mAl} (hok : mOk1 L i)
    (f : ∀ {p : Program} {e : Env} {s : State} {m : MethodId} {args : Array Value} {below : List Frame} {meth : Method} {c : Code} {H : Heap} {locs : List Loc} {Q : State → Prop} {ls : Array Slot}, p.tables.exec = Jvm.exec → c.code = mCd M → lv_has ls (mMx M) (ent L) → L.length = mMx M →
      (∀ ls' : Array Slot, lv_has ls' (mMx M) ((i, v) :: (ent L).filter (fun q => !(q.1 == i) && (!(q.1 == i + 1) && !(q.1 + 1 == i && q.2.category == 2)))) → W p G.1 e Z.1 s m args below meth c H locs al.2.1 al.2.2 Q (F0 m pc' ls' st')) → W p G.1 e Z.1 s m args below meth c H locs al.2.1 al.2.2 Q (F0 m pc ls st))
    (k : MW G M Z pc' ((L.set (i + 1) none).set i (some v)) st' h al) : MW G M Z pc L st h al :=
  fun p e s m args below meth c C X H locs ls hN hP hS hL => f C.1 C.2.1 (mloc_has hL) hL.2.1 (fun ls' hl => k p e s m args below meth c C X H locs ls' hN hP hS (mloc_st2 hL.2.1 hok hl))
/-- a call that ends as told -/
theorem mm_call {p : Program} {l : Launch} {e : Env} {R : Room} {s : State} {m : MethodId} {args : Array Value} {below : List Frame} {meth : Method} {c : Code} {H : Heap} {locs : List Loc} {cells slots : Nat} {Q : State → Prop} {pc : Nat} {ls : Array Slot} {rest st0 : List Value} {a : Array Value} {mc ms : Nat} {post : Option Value → mH → Prop}
    (hr : va_Run p l e R s m args below meth c H locs cells slots mc ms (F0 m pc ls st0) rest (mQ G mc post a) (gA G)) (hS : va_S (gA G) s.heap H locs)
    (kk : ∀ (r : Option Value) (h1 : mH) (H1 : Heap) (locs1 : List Loc), post r h1 → H1.size = H.size + mc → mP G h1 H1 → va_S (gA G) s.heap H1 locs1 → W p l e R s m args below meth c H1 locs1 (cells + mc) (slots + ms) Q (F0 m (pc + 3) ls (r.toList ++ rest))) : W p l e R s m args below meth c H locs cells slots Q (F0 m pc ls st0) := by
  intro T hT X
  obtain ⟨v, st₀, t, T', L, h0, X', hL, e1, e2, ⟨⟨r, h1, hv, hp, hsz, hP1⟩, hz, hk⟩, st⟩ := hr T hT X
  cases hv
  rw [h0] at hz hk hsz
  obtain ⟨t2, a1, b1⟩ := kk v h1 T'.heap (locs ++ L) hp (by rw [e1]; exact hsz) (by rw [e1]; exact hP1)
    ⟨Nat.le_trans hS.1 (by rw [e1]; exact hz), fun q h1 h2 => by rw [e1, hk q (Nat.lt_of_lt_of_le h1 hS.1) h2]; exact hS.2.1 q h1 h2, fun q hq => by
      rcases List.mem_append.mp hq with h | h
      · exact hS.2.2 q h
      · exact hL q h⟩ T' rfl X'
  exact ⟨t2, st t2 a1, b1⟩
/-- what the end of the method asks -/
def mRet (G : mG) (M : mI) (Z : mZ) (ret : Option Value → mH → mAl → Prop) : Prop := ∀ (pc : Nat) (L : mL) (h : mH) (al : mAl),
  (∀ x : Int32, decode (mCd M) pc = .ok (.ireturn, 1) → mrt (mRt M) x → ret (some (.int x)) h al → MW G M Z pc L [.int x] h al) ∧
  (∀ x : Nat, decode (mCd M) pc = .ok (.areturn, 1) → (∃ n, mRt M = some (.object n)) → ret (some (.ref x)) h al → MW G M Z pc L [.ref x] h al) ∧
  (decode (mCd M) pc = .ok (.return_, 1) → mRt M = none → ret none h al → MW G M Z pc L [] h al)
theorem heap_le {p : Program} {l : Launch} {e : Env} {R : Room} {s : State} {m : MethodId} {args : Array Value} {below : List Frame} {meth : Method} {c : Code} {T : State} {H : Heap} {locs : List Loc} {cells slots : Nat} (hT : T.heap = H) (X : Stand p l e R s m args below meth c T locs cells slots) : H.size ≤ s.heap.size + cells := by
  have h1 := X.same.2.2.1
  rw [← hT]
  exact h1
theorem va_S_trans {A : Nat → Prop} {H0 H H1 : Heap} {locs locs1 : List Loc} (h : va_S A H0 H locs) (h1 : va_S A H H1 locs1) : va_S A H0 H1 locs1 :=
  ⟨Nat.le_trans h.1 h1.1, fun q a b => (h1.2.1 q (Nat.lt_of_lt_of_le a h.1) b).trans (h.2.1 q a b), h1.2.2⟩
theorem va_S_rf {A : Nat → Prop} {H0 H : Heap} {locs : List Loc} (h : va_S A H0 H locs) : va_S A H H locs := ⟨Nat.le_refl _, fun _ _ _ => rfl, h.2.2⟩
theorem mz_ret {d mc ms : Nat} {post : Option Value → mH → Prop} : mRet G M (mz G d mc ms post) (fun r h al => al.2.1 = mc ∧ al.2.2 ≤ ms ∧ post r h) := by
  intro pc L h al
  refine ⟨fun x hd ht hq => ?_, fun x hd ht hq => ?_, fun hd ht hq => ?_⟩
  · intro p e s m args below meth c C X H locs ls hN hP hS hL T hT XX
    have hsz : H.size = s.heap.size + mc := by have := heap_le hT XX; have := hq.1; omega
    obtain ⟨hx, hb, hr, hml, hown, hts, hlk, hK, hgS, hB, hnm⟩ := C
    have hQ : ∀ t : State, t.heap = H → s.WarmedH t.vm → mQ G mc post args s (.returned (some (.int x))) t := fun t ht hW => ⟨⟨_, h, rfl, hq.2.2, by rw [ht]; exact hsz, by rw [ht]; exact hP⟩, hS.F ht⟩
    unfold mrt at ht
    split at ht
    next e1 => exact W.widen (k := mc) (n := ms) (Nat.le_of_eq hq.1) hq.2.1 (W.iret hx hb (hr.trans e1) hQ hS.2.2 hd hlk) T hT XX
    next e1 => exact W.widen (k := mc) (n := ms) (Nat.le_of_eq hq.1) hq.2.1 (W.zret hx hb (hr.trans e1) (by rcases ht with rfl | rfl <;> decide) hQ hS.2.2 hd hlk) T hT XX
    next => exact ht.elim
  · intro p e s m args below meth c C X H locs ls hN hP hS hL T hT XX
    have hsz : H.size = s.heap.size + mc := by have := heap_le hT XX; have := hq.1; omega
    obtain ⟨hx, hb, hr, hml, hown, hts, hlk, hK, hgS, hB, hnm⟩ := C
    obtain ⟨n, e1⟩ := ht
    exact W.widen (k := mc) (n := ms) (Nat.le_of_eq hq.1) hq.2.1 (W.aret hx hb (hr.trans e1) (Or.inl ⟨n, rfl⟩) (Or.inr ⟨x, rfl⟩) (fun t ht hW => ⟨⟨_, h, rfl, hq.2.2, by rw [ht]; exact hsz, by rw [ht]; exact hP⟩, hS.F ht⟩) hS.2.2 hd hlk) T hT XX
  · intro p e s m args below meth c C X H locs ls hN hP hS hL T hT XX
    have hsz : H.size = s.heap.size + mc := by have := heap_le hT XX; have := hq.1; omega
    obtain ⟨hx, hb, hr, hml, hown, hts, hlk, hK, hgS, hB, hnm⟩ := C
    exact W.widen (k := mc) (n := ms) (Nat.le_of_eq hq.1) hq.2.1 (W.vret hx hb (hr.trans ht) (fun t ht hW => ⟨⟨_, h, rfl, hq.2.2, by rw [ht]; exact hsz, by rw [ht]; exact hP⟩, hS.F ht⟩) hS.2.2 hd hlk) T hT XX
theorem MW.getf {pc a b idx : Nat} {x : Nat} {v : Value} {fs : List Value} {L : mL} {r : List Value} {h : mH} {al : mAl} (hx0 : h x = some (.inr (a, fs))) (hv : fs[b]? = some v) (hr : rTabF.any (fun q => q.1 == mCls M && (q.2.1 == idx && (q.2.2.1 == a && q.2.2.2.1 == b))) = true) (hd : decode (mCd M) pc = .ok (.getfield idx, 3))
    (k : MW G M Z (pc + 3) L (v :: r) h al) : MW G M Z pc L (.ref x :: r) h al := by
  intro p e s m args below meth c C X H locs ls hN hP hS hL
  obtain ⟨q, hc, hlt, hC, hlk⟩ := fld_link hr
  obtain ⟨q0, hq⟩ := mws_at hP hx0
  have kk := k p e s m args below meth c C X H locs ls hN hP hS hL
  obtain ⟨hx, hb, -, hml, hown, hts, -, hK, hgS, hB, hnm⟩ := C
  rcases hlk with hlk | hlk
  · exact va_get (C := q.1) (T := q.2.1) (N := q.2.2) (ref := q.1) hx hb hts (u_in_g hc) hown hK (mws_P hP H.size) q0 hq hc b hlt (hts _ hlk) (fun _ z => by rw [hC] at z; exact z) hv hd kk
  · exact va_getN (C := q.1) (T := q.2.1) (N := q.2.2) (ref := q.1) hx hb hts (u_in_g hc) hown hK (mws_P hP H.size) q0 hq hc b hlt (va_Nw.use rfl (hgS.1 _ hlk)) (fun _ z => by rw [hC] at z; exact z) hv hd kk
theorem MW.putf {pc a b idx : Nat} {x : Nat} {v : Value} {fs : List Value} {L : mL} {r : List Value} {h : mH} {al : mAl} (hx0 : h x = some (.inr (a, fs))) (hl : b < fs.length) (hf : mfit (tyCl a b) v)
    (hr : rTabF.any (fun q => q.1 == mCls M && (q.2.1 == idx && (q.2.2.1 == a && (q.2.2.2.1 == b && q.2.2.2.2.1 == 0)))) = true) (hfi : (match vwCl[a]? with | some c => !(c.2.1 b).2.2.2 || (decide ((mNm M).name = "<init>") && decide (c.1 = mOwn (mCls M))) | none => false) = true) (hd : decode (mCd M) pc = .ok (.putfield idx, 3))
    (k : MW G M Z (pc + 3) L r (mset h x (.inr (a, fs.set b v))) al) : MW G M Z pc L (v :: .ref x :: r) h al := by
  intro p e s m args below meth c C X H locs ls hN hP hS hL
  obtain ⟨q, hc, hlt, hC, hlk⟩ := fld_link0 hr
  obtain ⟨q0, hq⟩ := mws_at hP hx0
  have k2 := fun H1 locs1 hN hP hS => k p e s m args below meth c C X H1 locs1 ls hN hP hS hL
  obtain ⟨hx, hb, -, hml, hown, hts, -, hK, hgS, hB, hnm⟩ := C
  have cf := (cl_facts a q hc).2
  have hty := cf.1 b hlt
  have hfo := mfit_ok hf
  rw [hc] at hfi
  by_cases hfin : (q.2.1 b).2.2.2 = true
  · have h2 : (mNm M).name = "<init>" ∧ q.1 = mOwn (mCls M) := by
      simpa [hfin] using hfi
    exact va_putF (C := q.1) (T := q.2.1) (N := q.2.2) (ref := q.1) hx hb hts (u_in_g hc) (tyCl a) cf.1 cf.2 hown hK (mws_P hP H.size) (mws_D hP H.size) (va_S_rf hS) q0 hq hc b hlt (hts _ hlk) (fun _ z => by rw [hC] at z; exact z) hfin (hnm h2.1) (hC.trans h2.2) hty hfo.1 hfo.2 hl hd (fun H1 locs1 hP1 _ hS1 => k2 H1 locs1 ⟨hN.1, Nat.le_trans hN.2.1 hS1.1, hN.2.2⟩ (mP_set hP hx0 hq hP1) (va_S_trans hS hS1)) 
  · exact va_put (C := q.1) (T := q.2.1) (N := q.2.2) (ref := q.1) hx hb hts (u_in_g hc) (tyCl a) cf.1 cf.2 hown hK (mws_P hP H.size) (mws_D hP H.size) (va_S_rf hS) q0 hq hc b hlt (hts _ hlk) (fun _ z => by rw [hC] at z; exact z) (Bool.eq_false_iff.mpr hfin) hty hfo.1 hfo.2 hl hd (fun H1 locs1 hP1 _ hS1 => k2 H1 locs1 ⟨hN.1, Nat.le_trans hN.2.1 hS1.1, hN.2.2⟩ (mP_set hP hx0 hq hP1) (va_S_trans hS hS1))
theorem MW.aload {pc a t : Nat} {x : Nat} {i : Int32} {n : Nat} {f : Nat → Option Nat} {y : Nat} {ty : FieldType} {L : mL} {r : List Value} {h : mH} {al : mAl} (hx0 : h x = some (.inl (gC G a, n, .inr (.inr (.inr (.inr f)))))) (ht : (gT G)[t]? = some (gC G a, ty)) (hty : ty.isReference = true) (hi : vp_in i n) (hy : f i.toNatClampNeg = some y) (hd : decode (mCd M) pc = .ok (.aaload, 1))
    (k : MW G M Z (pc + 1) L (.ref y :: r) h al) : MW G M Z pc L (.int i :: .ref x :: r) h al := by
  intro p e s m args below meth c C X H locs ls hN hP hS hL
  have kk := k p e s m args below meth c C X H locs ls hN hP hS hL
  obtain ⟨hx, hb, -, hml, hown, hts, -, hK, hgS, hB, hnm⟩ := C
  have hlt : i.toNatClampNeg < n := Nat.not_le.mp fun q => hi (Or.inr q)
  exact W.aald (v := .ref y) (ty := ty) hx hb (hP x _ hx0).2 ((hK.2 t _ ht).1 n (fun j => va_rf (f j))) hty (fun q => by cases q) (by show ¬ (i < 0 ∨ (arrV _ _ _).slots.size ≤ _); rw [arrV_size]; exact hi) (by show (arrV _ _ _).slots[_]? = _; rw [arrV_read _ _ hlt, hy]; rfl) rfl rfl hd kk
theorem MW.iald {pc : Nat} {x : Nat} {i : Int32} {n : Nat} {f : Nat → Int32} {L : mL} {r : List Value} {h : mH} {al : mAl} (hx0 : h x = some (.inl (gC G 0, n, .inl f))) (hi : vp_in i n) (hd : decode (mCd M) pc = .ok (.iaload, 1))
    (k : MW G M Z (pc + 1) L (.int (f i.toNatClampNeg) :: r) h al) : MW G M Z pc L (.int i :: .ref x :: r) h al := by
  intro p e s m args below meth c C X H locs ls hN hP hS hL
  obtain ⟨q0, hq⟩ := mws_at hP hx0
  have kk := k p e s m args below meth c C X H locs ls hN hP hS hL
  obtain ⟨hx, hb, -, hml, hown, hts, -, hK, hgS, hB, hnm⟩ := C
  exact va_iald hx hb hK (mws_P hP H.size) q0 0 hq rfl hi hd kk
theorem MW.bald {pc a : Nat} {x : Nat} {i : Int32} {n : Nat} {f : Nat → Int32} {L : mL} {r : List Value} {h : mH} {al : mAl} (ha : a = 1 ∨ a = 2) (hx0 : h x = some (.inl (gC G a, n, .inl f))) (hi : vp_in i n) (hd : decode (mCd M) pc = .ok (.baload, 1))
    (k : MW G M Z (pc + 1) L (.int (f i.toNatClampNeg) :: r) h al) : MW G M Z pc L (.int i :: .ref x :: r) h al := by
  intro p e s m args below meth c C X H locs ls hN hP hS hL
  obtain ⟨q0, hq⟩ := mws_at hP hx0
  have kk := k p e s m args below meth c C X H locs ls hN hP hS hL
  obtain ⟨hx, hb, -, hml, hown, hts, -, hK, hgS, hB, hnm⟩ := C
  rcases ha with rfl | rfl
  · exact va_bald hx hb hK (mws_P hP H.size) q0 1 hq rfl hi hd kk
  · exact va_zald hx hb hK (mws_P hP H.size) q0 2 hq rfl hi hd kk
theorem MW.iast {pc : Nat} {x : Nat} {i v : Int32} {n : Nat} {f : Nat → Int32} {L : mL} {r : List Value} {h : mH} {al : mAl} (hx0 : h x = some (.inl (gC G 0, n, .inl f))) (hi : vp_in i n) (hd : decode (mCd M) pc = .ok (.iastore, 1))
    (k : MW G M Z (pc + 1) L r (mset h x (.inl (gC G 0, n, .inl (upd f i.toNatClampNeg v)))) al) : MW G M Z pc L (.int v :: .int i :: .ref x :: r) h al := by
  intro p e s m args below meth c C X H locs ls hN hP hS hL
  obtain ⟨q0, hq⟩ := mws_at hP hx0
  have k2 := fun H1 locs1 hN hP hS => k p e s m args below meth c C X H1 locs1 ls hN hP hS hL
  obtain ⟨hx, hb, -, hml, hown, hts, -, hK, hgS, hB, hnm⟩ := C
  exact va_iast hx hb hK (mws_P hP H.size) (mws_D hP H.size) (va_S_rf hS) q0 0 hq rfl hi hd (fun H1 locs1 hP1 _ hS1 => k2 H1 locs1 ⟨hN.1, Nat.le_trans hN.2.1 hS1.1, hN.2.2⟩ (mP_set hP hx0 hq hP1) (va_S_trans hS hS1))
theorem MW.bast {pc a : Nat} {x : Nat} {i v : Int32} {n : Nat} {f : Nat → Int32} {L : mL} {r : List Value} {h : mH} {al : mAl} (ha : a = 1 ∨ a = 2) (hx0 : h x = some (.inl (gC G a, n, .inl f))) (hi : vp_in i n) (hd : decode (mCd M) pc = .ok (.bastore, 1))
    (k : MW G M Z (pc + 1) L r (mset h x (.inl (gC G a, n, .inl (upd f i.toNatClampNeg (vp_nar (if a = 1 then .byte else .boolean) v))))) al) : MW G M Z pc L (.int v :: .int i :: .ref x :: r) h al := by
  intro p e s m args below meth c C X H locs ls hN hP hS hL
  obtain ⟨q0, hq⟩ := mws_at hP hx0
  have k2 := fun H1 locs1 hN hP hS => k p e s m args below meth c C X H1 locs1 ls hN hP hS hL
  obtain ⟨hx, hb, -, hml, hown, hts, -, hK, hgS, hB, hnm⟩ := C
  rcases ha with rfl | rfl
  · exact va_bast hx hb hK (mws_P hP H.size) (mws_D hP H.size) (va_S_rf hS) q0 1 hq rfl hi hd (fun H1 locs1 hP1 _ hS1 => k2 H1 locs1 ⟨hN.1, Nat.le_trans hN.2.1 hS1.1, hN.2.2⟩ (mP_set hP hx0 hq hP1) (va_S_trans hS hS1))
  · exact va_zast hx hb hK (mws_P hP H.size) (mws_D hP H.size) (va_S_rf hS) q0 2 hq rfl hi hd (fun H1 locs1 hP1 _ hS1 => k2 H1 locs1 ⟨hN.1, Nat.le_trans hN.2.1 hS1.1, hN.2.2⟩ (mP_set hP hx0 hq hP1) (va_S_trans hS hS1))
theorem MW.copy {pc idx : Nat} {x y : Nat} {sp dp n : Int32} {n0 n1 : Nat} {f g : Nat → Int32} {L : mL} {r : List Value} {h : mH} {al : mAl} {d : Nat} (hR : d ≤ Z.1.frames ∧ 64 * d ≤ Z.1.locals) (h1 : 1 ≤ d) (hst : mstW r ≤ 8) (hx0 : h x = some (.inl (gC G 0, n0, .inl f))) (hy0 : h y = some (.inl (gC G 0, n1, .inl g)))
    (a1 : ¬ sp < 0) (a2 : ¬ dp < 0) (a3 : ¬ n < 0) (a4 : sp.toNatClampNeg + n.toNatClampNeg ≤ n0) (a5 : dp.toNatClampNeg + n.toNatClampNeg ≤ n1) (hlk : Cond.methodLink (mOwn (mCls M)) idx arraycopyName ∈ lw_g) (hd : decode (mCd M) pc = .ok (.invokestatic idx, 3))
    (k : MW G M Z (pc + 3) L r (mset h y (.inl (gC G 0, n1, .inl (va_cpy f g sp.toNatClampNeg dp.toNatClampNeg n.toNatClampNeg)))) al) : MW G M Z pc L (.int n :: .int dp :: .ref y :: .int sp :: .ref x :: r) h al := by
  intro p e s m args below meth c C X H locs ls hN hP hS hL
  obtain ⟨q0, hq⟩ := mws_at hP hx0
  obtain ⟨q1, hq1⟩ := mws_at hP hy0
  have k2 := fun H1 locs1 hN hP hS => k p e s m args below meth c C X H1 locs1 ls hN hP hS hL
  obtain ⟨hx, hb, -, hml, hown, hts, -, hK, hgS, hB, hnm⟩ := C
  have hw : ∀ w, w ∈ lw_tbl → goodWord w = true → w.before args s = true := fun w a b => hts w (List.mem_filter.mpr ⟨a, b⟩)
  refine va_copyi hx hb (hml.trans hL.1.symm) hown (hts _ hlk) (hw _ posS_ok.2.2.1 rfl) (hw _ posS_ok.2.2.2.1 rfl) (hw _ posS_ok.2.2.2.2 rfl) hK (mws_P hP H.size) (mws_D hP H.size) (va_S_rf hS) q0 q1 0 0 hq hq1 rfl rfl rfl a1 a2 a3 a4 a5 (fun _ _ => rfl) (by omega) ?_ hd (fun H1 locs1 hP1 _ hS1 => k2 H1 locs1 ⟨hN.1, Nat.le_trans hN.2.1 hS1.1, hN.2.2⟩ (mP_set hP hy0 hq1 hP1) (va_S_trans hS hS1))
  have e5 : nativeFrameWords "java/lang/System" "arraycopy" 5 ≤ 40 := by decide +kernel
  unfold mstW at hst
  omega
end MWS
