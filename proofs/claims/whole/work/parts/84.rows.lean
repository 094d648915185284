/-! rows of references, rows of rows: how they are made and filled -/
section MNR
variable {p : Program} {l : Launch} {e : Env} {R : Room} {s : State} {m : MethodId} {args : Array Value} {below : List Frame} {meth : Method} {c : Code} {T : State} {locs : List Loc} {cells slots : Nat}
/-- the outer row when i of its rows are there, an inner row, the state then -/
def mnO (cA : ClassId) (N a i : Nat) : Cell := arrV cA N (fun j => if j < i then .ref (a + 1 + j) else .null)
def mnI (comp : ClassId) (K : Nat) : Cell := arrV comp K (fun _ => .int 0)
def mnS (U : State) (cA comp : ClassId) (N K : Nat) : Nat → State
  | 0 => U.pushCell (mnO cA N U.heap.size 0)
  | i + 1 => ((mnS U cA comp N K i).pushCell (mnI comp K)).setCell U.heap.size (mnO cA N U.heap.size (i + 1))
theorem mnO_set (cA : ClassId) (N a i : Nat) : (mnO cA N a i).setSlot i (.ref (a + 1 + i)) = mnO cA N a (i + 1) := by
  unfold mnO
  rw [arrV_store]
  congr 1
  funext j
  unfold updV
  by_cases c : j = i
  · rw [if_pos c, if_pos (by omega), c]
  · rw [if_neg c]
    show (if j < i then _ else _) = _
    by_cases c2 : j < i
    · rw [if_pos c2, if_pos (by omega)]
    · rw [if_neg c2, if_neg (by omega)]
theorem mnO_size (cA : ClassId) (N a i : Nat) : (mnO cA N a i).slots.size = N := arrV_size _ _ _
theorem mnI_size (comp : ClassId) (K : Nat) : (mnI comp K).slots.size = K := arrV_size _ _ _
theorem mnS_facts (U : State) (cA comp : ClassId) (N K : Nat) : ∀ i, (mnS U cA comp N K i).heap.size = U.heap.size + 1 + i ∧ (mnS U cA comp N K i).heap[U.heap.size]? = some (mnO cA N U.heap.size i) ∧ (mnS U cA comp N K i).vm = U.vm ∧ (mnS U cA comp N K i).slotsUsed = U.slotsUsed + N + i * K ∧ (∀ q, q < U.heap.size → (mnS U cA comp N K i).heap[q]? = U.heap[q]?) ∧ ∀ j, j < i → (mnS U cA comp N K i).heap[U.heap.size + 1 + j]? = some (mnI comp K)
  | 0 => by
    refine ⟨by show (U.heap.push _).size = _; rw [Array.size_push], by show (U.heap.push _)[U.heap.size]? = _; rw [Array.getElem?_push_size], rfl, ?_, fun q hq => ?_, fun j hj => absurd hj (Nat.not_lt_zero _)⟩
    · show U.slotsUsed + (mnO cA N U.heap.size 0).slots.size = _
      rw [mnO_size]
      omega
    · show (U.heap.push _)[q]? = _
      rw [Array.getElem?_push, if_neg (Nat.ne_of_lt hq)]
  | i + 1 => by
    obtain ⟨f1, f2, f3, f4, f5, f6⟩ := mnS_facts U cA comp N K i
    have hs : (mnS U cA comp N K (i + 1)).heap = (((mnS U cA comp N K i).heap.push (mnI comp K)).setIfInBounds U.heap.size (mnO cA N U.heap.size (i + 1))) := rfl
    refine ⟨by rw [hs, Array.size_setIfInBounds, Array.size_push, f1]; omega, ?_, f3, ?_, fun q hq => ?_, fun j hj => ?_⟩
    · rw [hs, Array.getElem?_setIfInBounds_self_of_lt (by rw [Array.size_push, f1]; omega)]
    · show (mnS U cA comp N K i).slotsUsed + (mnI comp K).slots.size = _
      rw [f4, mnI_size, Nat.succ_mul]
      omega
    · rw [hs, Array.getElem?_setIfInBounds_ne (by omega), Array.getElem?_push, if_neg (by rw [f1]; omega)]
      exact f5 q hq
    · rw [hs, Array.getElem?_setIfInBounds_ne (by omega), Array.getElem?_push]
      by_cases c : j = i
      · rw [c, if_pos (by rw [f1])]
      · rw [if_neg (by rw [f1]; omega)]
        exact f6 j (by omega)
theorem mnS_top (U : State) (f : JFrame) (cA comp : ClassId) (N K : Nat) : ∀ i, mnS (U.setTop f) cA comp N K i = (mnS U cA comp N K i).setTop f
  | 0 => rfl
  | i + 1 => by
    show ((mnS (U.setTop f) cA comp N K i).pushCell _).setCell _ _ = _
    rw [mnS_top U f cA comp N K i]
    rfl
theorem mnS_stand (X : Stand p l e R s m args below meth c T locs cells slots) (cA comp : ClassId) (N K : Nat) : ∀ i, ∃ L : List Loc, (∀ q ∈ L, q ∈ locs ∨ q.base = T.heap.size) ∧ Stand p l e R s m args below meth c (mnS T cA comp N K i) L (cells + 1 + i) (slots + N + i * K)
  | 0 => by
    have h := X.pushed (mnO cA N T.heap.size 0)
    rw [mnO_size] at h
    exact ⟨locs, fun q hq => Or.inl hq, by rw [Nat.zero_mul]; exact h⟩
  | i + 1 => by
    obtain ⟨L, hL, Xi⟩ := mnS_stand X cA comp N K i
    obtain ⟨f1, f2, -⟩ := mnS_facts T cA comp N K i
    have hcell : ((mnS T cA comp N K i).pushCell (mnI comp K)).heap[T.heap.size]? = some (mnO cA N T.heap.size i) := by
      show ((mnS T cA comp N K i).heap.push _)[T.heap.size]? = _
      rw [Array.getElem?_push, if_neg (by rw [f1]; omega)]
      exact f2
    have h := (Xi.pushed (mnI comp K)).stored hcell i (.ref (T.heap.size + 1 + i))
    rw [mnI_size, mnO_set] at h
    refine ⟨L ++ [⟨T.heap.size, i⟩], fun q hq => ?_, ?_⟩
    · rcases List.mem_append.mp hq with z | z
      · exact hL q z
      · rw [List.mem_singleton] at z
        rw [z]
        exact Or.inr rfl
    · rw [show slots + N + (i + 1) * K = slots + N + i * K + K by rw [Nat.succ_mul]; omega]
      exact h
theorem mn_make {E : CtlPost} {d : Bool} {acts : List Action} {U : State} {cA comp cc : ClassId} {k kc : Class} {n q : Int32} (hk : U.vm.classes[cA]? = some k) (hkind : k.kind = .array comp (.array .int)) (hkc : U.vm.classes[comp]? = some kc) (hkindc : kc.kind = .array cc .int) (hn : ¬ n < 0) (hq : ¬ q < 0)
    (l1 : ¬ n.toNatClampNeg > e.platform.arrayLengthLimit) (l2 : ¬ n.toNatClampNeg * componentBytes (.array .int) > e.platform.maxHeapBytes) (l3 : ¬ q.toNatClampNeg > e.platform.arrayLengthLimit) (l4 : ¬ q.toNatClampNeg * componentBytes .int > e.platform.maxHeapBytes)
    (r1 : U.heap.size + 1 + n.toNatClampNeg ≤ e.platform.maxCells) (r2 : U.slotsUsed + n.toNatClampNeg + n.toNatClampNeg * q.toNatClampNeg ≤ e.platform.maxSlots)
    {Q : Addr → Pre} (kk : ∀ d' acts', Q U.heap.size d' acts' (mnS U cA comp n.toNatClampNeg q.toNatClampNeg n.toNatClampNeg)) : wp (multianewarray.make cA [n, q]) Q E e d acts U := by
  rw [multianewarray.make]
  simp only [wp_bind', W.ite, hn, if_false, wp_pure', W.theClass, hk, hkind, Option.some.injEq, exists_eq_left']
  refine W.newArray_of hk hkind l1 l2 (by omega) (by omega) rfl (fun acts1 => ?_)
  have hf : ([q].find? (· < 0)) = none := by simp [hq]
  simp only [hf]
  rw [ite_self, wp_bind', Std.Legacy.Range.forIn_eq_forIn_range']
  rw [show ([:n.toNatClampNeg] : Std.Legacy.Range).size = n.toNatClampNeg by simp [Std.Legacy.Range.size]]
  show wp (forIn (List.range' 0 n.toNatClampNeg 1) PUnit.unit _) _ E e d acts1 _
  rw [show ({ cls := cA, slots := Array.replicate n.toNatClampNeg Value.null } : Cell) = mnO cA n.toNatClampNeg U.heap.size 0 by
    rw [arrV_new]
    unfold mnO
    congr 1]
  refine wp_forIn_inv (fun rest V => ∃ i, i ≤ n.toNatClampNeg ∧ rest = List.range' i (n.toNatClampNeg - i) ∧ V = mnS U cA comp n.toNatClampNeg q.toNatClampNeg i) _ _ ⟨0, Nat.zero_le _, rfl, rfl⟩ ?_ ?_
  · rintro x rest V d2 acts2 Q2 ⟨i, hi, hr, rfl⟩ next
    have hlt : i < n.toNatClampNeg := by
      apply Classical.byContradiction
      intro z
      rw [show n.toNatClampNeg - i = 0 by omega] at hr
      cases hr
    rw [show n.toNatClampNeg - i = (n.toNatClampNeg - (i + 1)) + 1 by omega, List.range'_succ] at hr
    obtain ⟨rfl, rfl⟩ := List.cons.inj hr
    obtain ⟨f1, f2, f3, f4, f5, f6⟩ := mnS_facts U cA comp n.toNatClampNeg q.toNatClampNeg x
    have hm : x * q.toNatClampNeg + q.toNatClampNeg ≤ n.toNatClampNeg * q.toNatClampNeg := by
      have := Nat.mul_le_mul_right q.toNatClampNeg (show x + 1 ≤ n.toNatClampNeg from hlt)
      rw [Nat.succ_mul] at this
      exact this
    simp only [wp_bind']
    rw [multianewarray.make]
    simp only [wp_bind', W.ite, hq, if_false, wp_pure', W.theClass, f3, hkc, hkindc, Option.some.injEq, exists_eq_left']
    refine W.newArray_of (by rw [f3]; exact hkc) hkindc l3 l4 (by rw [f1]; omega) (by rw [f4]; omega) rfl (fun acts3 => ?_)
    rw [show ({ cls := comp, slots := Array.replicate q.toNatClampNeg (defaultValue .int) } : Cell) = mnI comp q.toNatClampNeg from arrV_new comp q.toNatClampNeg (.int 0)]
    simp only [wp_bind', W.writeLoc, wp_pure']
    refine ⟨mnO cA n.toNatClampNeg U.heap.size x, ?_, (fun z => nomatch z), (by rw [mnO_size]; exact hlt), ?_, next _ _ _ ⟨x + 1, hlt, rfl, ?_⟩⟩
    · show ((mnS U cA comp n.toNatClampNeg q.toNatClampNeg x).heap.push _)[U.heap.size]? = _
      rw [Array.getElem?_push, if_neg (by rw [f1]; omega)]
      exact f2
    · show State.fitsSlot _ cA .none x _ = true
      simp [State.fitsSlot, State.slotType?, f3, hk, hkind, fits]
    · rw [f1, mnO_set]
      rfl
  · rintro V d2 acts2 ⟨i, hi, hr, rfl⟩
    have : i = n.toNatClampNeg := by
      apply Classical.byContradiction
      intro z
      rw [show n.toNatClampNeg - i = (n.toNatClampNeg - (i + 1)) + 1 by omega, List.range'_succ] at hr
      cases hr
    subst this
    simp only [wp_pure']
    exact kk _ _
theorem W.mnew2 {H : Heap} {Q : State → Prop} {cc : ByteArray} {own : String} {index pc N K : Nat} {n q : Int32} {ls : Array Slot} {rest : List Value} (hx : p.tables.exec = Jvm.exec) (hb : c.code = cc) (hown : s.vm.findClass own = some m.cls) (hlink : (Cond.classLink own index "[[I").before args s = true) (hAI : gAI s) (harr : (Cond.arrayClass .int).before args s = true)
    (hd : decode cc pc = .ok (.multianewarray index 2, 4)) (hn : ¬ n < 0) (hq : ¬ q < 0) (eN : n.toNatClampNeg = N) (eK : q.toNatClampNeg = K) (hN : N ≤ 1000) (hK : K ≤ 1000) (hc : cells + (1 + N) ≤ R.cells) (hs : slots + (N + N * K) ≤ R.slots)
    (kk : ∀ (H1 : Heap) (L : List Loc) (cA comp : ClassId), s.vm.findClass "[[I" = some cA → s.vm.findClass "[I" = some comp → H1.size = H.size + 1 + N → H1[H.size]? = some (mnO cA N H.size N) → (∀ j, j < N → H1[H.size + 1 + j]? = some (mnI comp K)) → (∀ x, x < H.size → H1[x]? = H[x]?) → (∀ x ∈ L, x ∈ locs ∨ x.base = H.size) → W p l e R s m args below meth c H1 L (cells + 1 + N) (slots + N + N * K) Q (F0 m (pc + 4) ls (.ref H.size :: rest))) : W p l e R s m args below meth c H locs cells slots Q (F0 m pc ls (.int q :: .int n :: rest)) := by
  intro T hT X
  subst hT
  subst hb
  subst eN
  subst eK
  have hpl : e.platform.magicAccessors = ({} : Platform).magicAccessors := by rw [X.admits.platform]
  obtain ⟨comp, cA, kA, hcomp, hkA, hkindA, hnameA⟩ := hAI
  obtain ⟨comp', kC, cc', hcomp', hkC, hkindC⟩ := Cond.arrayClass_spec harr
  have ec : comp' = comp := Option.some.inj (hcomp'.symm.trans hcomp)
  subst ec
  obtain ⟨c0, hfc0, hcl⟩ := Cond.classLink_spec hown hlink e.platform hpl
  cases hnameA.symm.trans hfc0
  obtain ⟨hg1, hwarm1, hready1⟩ := State.classEntry (e := e) X.warmed hcl
  generalize T.vm.noted m.cls index (.cls cA) = vm1 at hg1 hwarm1 hready1
  have hal : s.vm.Alike vm1 := hwarm1.alike
  obtain ⟨kA1, hkA1, heA⟩ := hal.2.2 _ _ hkA
  obtain ⟨kC1, hkC1, heC⟩ := hal.2.2 _ _ hkC
  have hkindA1 : kA1.kind = .array comp' (.array .int) := by rw [heA]; exact hkindA
  have hkindC1 : kC1.kind = .array cc' .int := by rw [heC]; exact hkindC
  have X1 := X.noted hwarm1
  obtain ⟨hr1, hr2⟩ := X.roomAbove hc hs
  obtain ⟨L, hL, XF⟩ := mnS_stand X1 cA comp' n.toNatClampNeg q.toNatClampNeg n.toNatClampNeg
  obtain ⟨f1, f2, f3, f4, f5, f6⟩ := mnS_facts (T.setVm vm1) cA comp' n.toNatClampNeg q.toNatClampNeg n.toNatClampNeg
  obtain ⟨t, a1, b1⟩ := kk (mnS (T.setVm vm1) cA comp' n.toNatClampNeg q.toNatClampNeg n.toNatClampNeg).heap L cA comp' hnameA hcomp f1 f2 f6 f5 hL _ rfl XF
  refine ⟨t, ?_, b1⟩
  have l1 : ¬ n.toNatClampNeg > e.platform.arrayLengthLimit := by rw [Launch.admits_arrayLengthLimit X.admits]; omega
  have l2 : ¬ n.toNatClampNeg * componentBytes (.array .int) > e.platform.maxHeapBytes := by
    rw [Launch.admits_maxHeapBytes X.admits]
    show ¬ n.toNatClampNeg * 4 > 536870912
    omega
  have l3 : ¬ q.toNatClampNeg > e.platform.arrayLengthLimit := by rw [Launch.admits_arrayLengthLimit X.admits]; omega
  have l4 : ¬ q.toNatClampNeg * componentBytes .int > e.platform.maxHeapBytes := by
    rw [Launch.admits_maxHeapBytes X.admits]
    show ¬ q.toNatClampNeg * 4 > 536870912
    omega
  generalize hg : F0 m pc ls (.int q :: .int n :: rest) = g
  have gm : g.method = m := by rw [← hg]
  have gp : g.pc = pc := by rw [← hg]
  have gs : g.stack = .int q :: .int n :: rest := by rw [← hg]
  have hdg : decode c.code g.pc = .ok (.multianewarray index 2, 4) := by rw [gp]; exact hd
  have ge : F0 m (pc + 4) ls (.ref T.heap.size :: rest) = { g with pc := g.pc + 4, stack := .ref T.heap.size :: rest } := by rw [← hg]
  rw [ge] at a1
  subst gm
  jvm_step X.here [hx, hdg]
  simp only [multianewarray.sem, wp_bind', W.resolveClassAt_links (State.method?_setTop g X.here.top) hg1]
  rw [W.popN, if_neg (by decide)]
  refine ⟨g, State.topJava?_setTop' (s := T.setVm vm1) g X.here.top, [.int n, .int q], rest, rfl, gs, ?_⟩
  simp only [List.mapM_cons, List.mapM_nil, wp_bind', wp_pure']
  refine mn_make (k := kA1) (kc := kC1) (comp := comp') (cc := cc') hkA1 hkindA1 hkC1 hkindC1 hn hq l1 l2 l3 l4 (by show T.heap.size + 1 + _ ≤ _; omega) (by show T.slotsUsed + _ + _ ≤ _; omega) (fun d2 acts2 => ?_)
  have eS : ((T.setTop g).setVm vm1).setTop { g with stack := rest } = (T.setVm vm1).setTop { g with stack := rest } := by
    show ((T.setVm vm1).setTop g).setTop _ = _
    rw [State.setTop_setTop]
  rw [eS, mnS_top]
  simp only [wp_bind', W.mark, W.pushRef, State.topJava?_setTop' _ XF.here.top, Option.some.injEq, exists_eq_left', State.setTop_setTop, State.heap_setTop]
  intro acts3
  simp [jvm, XF.here.top]
  exact a1
end MNR
section MWY
variable {G : mG} {M : mI} {Z : mZ}
theorem MW.newz {pc : Nat} {n : Int32} {K : Nat} {L : mL} {r : List Value} {h : mH} {al : mAl} (hd : decode (mCd M) pc = .ok (.newarray .boolean, 2)) (hn : ¬ n < 0) (hK0 : n.toNatClampNeg = K) (hby : K ≤ 1000) (hc : al.2.1 + 1 ≤ Z.1.cells) (hs : al.2.2 + K ≤ Z.1.slots)
    (k : MW G M Z (pc + 2) L (.ref al.1 :: r) (mset h al.1 (.inl (gC G 2, K, .inl (fun _ => 0)))) (al.1 + 1, al.2.1 + 1, al.2.2 + K)) : MW G M Z pc L (.int n :: r) h al :=
  MW.newa (t := 2) hd rfl rfl rfl (fun _ _ q => q) arrW.2.2 hn hK0 (by show K * 1 ≤ 536870912; omega) hc hs k
theorem MW.newb {pc : Nat} {n : Int32} {K : Nat} {L : mL} {r : List Value} {h : mH} {al : mAl} (hd : decode (mCd M) pc = .ok (.newarray .byte, 2)) (hn : ¬ n < 0) (hK0 : n.toNatClampNeg = K) (hby : K ≤ 1000) (hc : al.2.1 + 1 ≤ Z.1.cells) (hs : al.2.2 + K ≤ Z.1.slots)
    (k : MW G M Z (pc + 2) L (.ref al.1 :: r) (mset h al.1 (.inl (gC G 1, K, .inl (fun _ => 0)))) (al.1 + 1, al.2.1 + 1, al.2.2 + K)) : MW G M Z pc L (.int n :: r) h al :=
  MW.newa (t := 1) hd rfl rfl rfl (fun _ _ q => q) arrW.2.1 hn hK0 (by show K * 1 ≤ 536870912; omega) hc hs k
theorem MW.newr {pc idx t : Nat} {D : String} {n : Int32} {K : Nat} {L : mL} {r : List Value} {h : mH} {al : mAl} (hd : decode (mCd M) pc = .ok (.anewarray idx, 3)) (hl : Cond.classLink (mOwn (mCls M)) idx D ∈ lw_tbl) (hA : ∀ U H, gS G U H → va_AO D U) (ht : (gT G)[t]? = some (gC G t, .object D)) (hn : ¬ n < 0) (hK0 : n.toNatClampNeg = K) (hby : K ≤ 1000) (hc : al.2.1 + 1 ≤ Z.1.cells) (hs : al.2.2 + K ≤ Z.1.slots)
    (k : MW G M Z (pc + 3) L (.ref al.1 :: r) (mset h al.1 (.inl (gC G t, K, .inr (.inr (.inr (.inr (fun _ => none))))))) (al.1 + 1, al.2.1 + 1, al.2.2 + K)) : MW G M Z pc L (.int n :: r) h al := by
  intro p e s m args below meth c C X H locs ls hN hP hS hL T hT XX
  have hsz : H.size = al.1 := by have := heap_le hT XX; omega
  have C0 := C
  obtain ⟨hx, hb, -, hml, hown, hts, -, hK, hgS, hB, hnm⟩ := C
  refine (?_ : W p G.1 e Z.1 s m args below meth c H locs al.2.1 al.2.2 (Z.2.1 below args s) (F0 m pc ls (.int n :: r))) T hT XX
  refine W.anew hx hb hown (hts _ (List.mem_filter.mpr ⟨hl, rfl⟩)) (va_AO.use (hA _ _ hgS)) rfl hd rfl hn (by rw [hK0]; omega) hc (by rw [hK0]; exact hs) (fun cA kA comp f1 f2 f3 f4 => ?_)
  obtain ⟨kA', comp', g1, g2, g3, g4⟩ := (hK.2 t _ ht).2
  have hcA : cA = gC G t := Option.some.inj (f1.symm.trans g4)
  subst hcA
  rw [hK0]
  generalize hH1 : H.push ({ cls := gC G t, slots := Array.replicate K .null, vm := .none } : Cell) = H1
  have z1 : H1.size = al.1 + 1 := by rw [← hH1, Array.size_push, hsz]
  have e1 : H1[al.1]? = some (arrV (gC G t) K (fun _ => .null)) := by rw [← hH1, ← hsz, Array.getElem?_push_size, ← arrV_new]
  have o1 : ∀ q : Nat, q < al.1 → H1[q]? = H[q]? := fun q hq => by rw [← hH1, Array.getElem?_push, if_neg (by omega)]
  show W p G.1 e Z.1 s m args below meth c H1 locs (al.2.1 + 1) (al.2.2 + K) (Z.2.1 below args s) (F0 m (pc + 3) ls (.ref H.size :: r))
  rw [hsz]
  refine k p e s m args below meth c C0 X H1 locs ls ⟨by show al.1 + 1 = _ + (al.2.1 + 1); omega, by show al.1 + 1 ≤ _; omega, hc, hs⟩ (mP_new hP hsz (by omega) ?_ o1) (va_S_new hS hsz z1 o1) hL
  show H1[al.1]? = some (vp_cell _ _)
  rw [vp_cell_q]
  exact e1
theorem MW.ast {pc t ci x v n : Nat} {i : Int32} {f : Nat → Option Nat} {vs : List Value} {q : vw_C} {L : mL} {r : List Value} {h : mH} {al : mAl} (hx0 : h x = some (.inl (gC G t, n, .inr (.inr (.inr (.inr f)))))) (hv0 : h v = some (.inr (ci, vs))) (hc : vwCl[ci]? = some q) (ht : (gT G)[t]? = some (gC G t, .object q.1)) (hi : vp_in i n) (hd : decode (mCd M) pc = .ok (.aastore, 1))
    (k : MW G M Z (pc + 1) L r (mset h x (.inl (gC G t, n, .inr (.inr (.inr (.inr (va_up f i.toNatClampNeg (some v)))))))) al) : MW G M Z pc L (.ref v :: .int i :: .ref x :: r) h al := by
  intro p e s m args below meth c C X H locs ls hN hP hS hL
  obtain ⟨q0, hq⟩ := mws_at hP hx0
  obtain ⟨qk, hqk⟩ := mws_at hP hv0
  have k2 := fun H1 locs1 hN hP hS => k p e s m args below meth c C X H1 locs1 ls hN hP hS hL
  obtain ⟨hx, hb, -, hml, hown, hts, -, hK, hgS, hB, hnm⟩ := C
  exact va_astq hx hb hK (mws_P hP H.size) (mws_D hP H.size) (va_S_rf hS) q0 t qk ci hq ht hqk hc hi hd (fun H1 locs1 hP1 _ hS1 => k2 H1 locs1 ⟨hN.1, Nat.le_trans hN.2.1 hS1.1, hN.2.2⟩ (mP_set hP hx0 hq hP1) (va_S_trans hS hS1))
/-- 31 rows of 10 ints -/
def mrows (h : mH) (G : mG) (a : Nat) : mH := fun q => if q = a then some (.inl (gC G 3, 31, .inr (.inr (.inr (.inr (fun i => some (a + 1 + i))))))) else if a + 1 ≤ q ∧ q < a + 32 then some (.inl (gC G 0, 10, .inl (fun _ => 0))) else h q
theorem MW.mnew {pc idx : Nat} {L : mL} {r : List Value} {h : mH} {al : mAl} (hd : decode (mCd M) pc = .ok (.multianewarray idx 2, 4)) (hl : Cond.classLink (mOwn (mCls M)) idx "[[I" ∈ lw_tbl) (hc : al.2.1 + 32 ≤ Z.1.cells) (hs : al.2.2 + 341 ≤ Z.1.slots)
    (k : MW G M Z (pc + 4) L (.ref al.1 :: r) (mrows h G al.1) (al.1 + 32, al.2.1 + 32, al.2.2 + 341)) : MW G M Z pc L (.int 10 :: .int 31 :: r) h al := by
  intro p e s m args below meth c C X H locs ls hN hP hS hL T hT XX
  have hsz : H.size = al.1 := by have := heap_le hT XX; omega
  have C0 := C
  obtain ⟨hx, hb, -, hml, hown, hts, -, hK, hgS, hB, hnm⟩ := C
  refine (?_ : W p G.1 e Z.1 s m args below meth c H locs al.2.1 al.2.2 (Z.2.1 below args s) (F0 m pc ls (.int 10 :: .int 31 :: r))) T hT XX
  refine W.mnew2 (N := 31) (K := 10) hx hb hown (hts _ (List.mem_filter.mpr ⟨hl, rfl⟩)) hgS.2.2.2.2.2.2 (hts _ (List.mem_filter.mpr ⟨arrW.1, rfl⟩)) hd (by decide) (by decide) rfl rfl (by decide) (by decide) (by omega) (by omega) (fun H1 L1 cA comp g1 g2 z1 e1 e2 o1 hL1 => ?_)
  have k3 : s.vm.findClass "[[I" = some (gC G 3) := (hK.2 3 _ rfl).2
  have k0 : s.vm.findClass "[I" = some (gC G 0) := (hK.2 0 _ rfl).2
  have hcA : cA = gC G 3 := Option.some.inj (g1.symm.trans k3)
  have hcm : comp = gC G 0 := Option.some.inj (g2.symm.trans k0)
  subst hcA
  subst hcm
  rw [hsz] at e1 e2 o1 z1 hL1
  show W p G.1 e Z.1 s m args below meth c H1 L1 (al.2.1 + 1 + 31) (al.2.2 + 31 + 31 * 10) (Z.2.1 below args s) (F0 m (pc + 4) ls (.ref H.size :: r))
  rw [hsz, show al.2.1 + 1 + 31 = al.2.1 + 32 by omega, show al.2.2 + 31 + 31 * 10 = al.2.2 + 341 by omega]
  refine k p e s m args below meth c C0 X H1 L1 ls ⟨by show al.1 + 32 = _ + (al.2.1 + 32); omega, by show al.1 + 32 ≤ _; omega, hc, hs⟩ (fun y ey hy => ?_) ⟨by have := hS.1; omega, fun q g1 g2 => (o1 q (by have := hS.1; omega)).trans (hS.2.1 q g1 g2), fun q hq => ?_⟩ hL
  · unfold mrows at hy
    by_cases c1 : y = al.1
    · rw [if_pos c1] at hy
      cases hy
      refine ⟨by omega, ?_⟩
      show H1[y]? = some (vp_cell _ _)
      rw [c1, e1, vp_cell_q]
      unfold mnO arrV
      congr 2
    · rw [if_neg c1] at hy
      by_cases c2 : al.1 + 1 ≤ y ∧ y < al.1 + 32
      · rw [if_pos c2] at hy
        cases hy
        refine ⟨by omega, ?_⟩
        show H1[y]? = some (vp_cell _ _)
        have := e2 (y - (al.1 + 1)) (by omega)
        rw [show al.1 + 1 + (y - (al.1 + 1)) = y by omega] at this
        rw [this, vp_cell_i]
        rfl
      · rw [if_neg c2] at hy
        have h1 := hP y ey hy
        have h2 := h1.2.lt
        exact ⟨h1.1, h1.2.kept (o1 y (by rw [← hsz]; exact h2))⟩
  · rcases hL1 q hq with z | z
    · exact hS.2.2 q z
    · show gB G ≤ q.base
      rw [z]
      have := hS.1
      omega
end MWY
