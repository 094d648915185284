/-! the machine seen from above: a heap by addresses, locals and stack as lists; MW: from here the method ends as told; MC: a call ends as told -/
abbrev mH : Type := Nat → Option va_E
abbrev mL : Type := List (Option Value)
abbrev mAl : Type := Nat × Nat × Nat
/-- launch, class numbers, first address, array classes, String constants -/
abbrev mG : Type := Launch × va_G × Nat × (Nat → ClassId) × (Nat → Nat) × (Nat → Nat)
abbrev mZ : Type := Room × (List Frame → Array Value → State → State → Prop) × (Array Value → State → Prop)
def gB (G : mG) : Nat := G.2.2.1
def gD (G : mG) : va_G := G.2.1
def gC (G : mG) (k : Nat) : ClassId := G.2.2.2.1 k
def gA (G : mG) : Nat → Prop := fun q => gB G ≤ q
def gT (G : mG) : List (ClassId × FieldType) := [(gC G 0, .int), (gC G 1, .byte), (gC G 2, .boolean), (gC G 3, .array .int), (gC G 4, .object "CornerFronts$Front"), (gC G 5, .object "CornerFronts$Sheet")]
def lw_g : List Cond := lw_tbl.filter goodWord
def isNest (w : Cond) : Bool := match w with | .fieldLinkNest .. => true | .methodLinkNest .. => true | _ => false
def lw_n : List Cond := lw_tbl.filter isNest
/-- the class of the rows of rows of ints -/
def gAI (U : State) : Prop := ∃ (comp c : ClassId) (k : Class), U.vm.findClass "[I" = some comp ∧ U.vm.classes[c]? = some k ∧ k.kind = .array comp (.array .int) ∧ U.vm.findClass "[[I" = some c
theorem gAI_moved {u U : State} (hvm : u.vm.Alike U.vm) (h : gAI u) : gAI U := by
  obtain ⟨comp, c, k, h1, h2, h3, h4⟩ := h
  obtain ⟨k', hk', he⟩ := hvm.2.2 _ _ h2
  exact ⟨comp, c, k', by rw [hvm.findClass]; exact h1, hk', by rw [he]; exact h3, by rw [hvm.findClass]; exact h4⟩
def gS (G : mG) (U : State) (H : Heap) : Prop := (∀ w ∈ lw_n, va_Nw w U) ∧ vk_S 1 [3] [[98, 120, 100]] G.2.2.2.2.1 G.2.2.2.2.2 (gA G) U H ∧ vk_R "CornerFronts$Tape" 68 "bxd" (G.2.2.2.2.1 0) U ∧ va_Z "java/lang/String" "COMPACT_STRINGS" "Z" (.int 1) (gA G) U H ∧ va_AO "CornerFronts$Front" U ∧ va_AO "CornerFronts$Sheet" U ∧ gAI U
def mset (h : mH) (a : Nat) (e : va_E) : mH := fun q => if q = a then some e else h q
theorem mset_same {h : mH} {a : Nat} {e : va_E} : mset h a e a = some e := if_pos rfl
theorem mset_ne {h : mH} {a b : Nat} {e : va_E} (n : b ≠ a) : mset h a e b = h b := if_neg n
def mP (G : mG) (h : mH) (H : Heap) : Prop := ∀ (x : Nat) (e : va_E), h x = some e → gB G ≤ x ∧ va_at (gD G) vwCl (x, e) H
def mws (h : mH) (N : Nat) : va_W := (List.range N).filterMap (fun x => (h x).map (fun e => (x, e)))
theorem mws_mem {h : mH} {N x : Nat} {e : va_E} : (x, e) ∈ mws h N ↔ x < N ∧ h x = some e := by
  unfold mws
  rw [List.mem_filterMap]
  constructor
  · rintro ⟨a, h1, h2⟩
    rw [List.mem_range] at h1
    cases ha : h a with
    | none => rw [ha] at h2; cases h2
    | some e2 =>
      rw [ha] at h2
      simp only [Option.map_some, Option.some.injEq, Prod.mk.injEq] at h2
      obtain ⟨rfl, rfl⟩ := h2
      exact ⟨h1, ha⟩
  · rintro ⟨h1, h2⟩
    exact ⟨x, List.mem_range.mpr h1, by rw [h2]; rfl⟩
theorem mws_pw (h : mH) : ∀ N : Nat, (mws h N).Pairwise (fun p q => p.1 < q.1) := by
  intro N
  unfold mws
  rw [List.pairwise_filterMap]
  refine List.Pairwise.imp ?_ List.pairwise_lt_range
  intro a b hab p hp q hq
  cases ha : h a with
  | none => rw [ha] at hp; cases hp
  | some e1 =>
    cases hb : h b with
    | none => rw [hb] at hq; cases hq
    | some e2 =>
      rw [ha] at hp
      rw [hb] at hq
      simp only [Option.map_some, Option.some.injEq] at hp hq
      rw [← hp, ← hq]
      exact hab
theorem mws_D {G : mG} {h : mH} {H : Heap} (hP : mP G h H) (N : Nat) : va_D (gA G) (mws h N) := by
  refine ⟨fun i j p q hi hj hpq => ?_, fun k q hk => ?_⟩
  · have hpw := List.pairwise_iff_getElem.mp (mws_pw h N)
    obtain ⟨li, ei⟩ := List.getElem?_eq_some_iff.mp hi
    obtain ⟨lj, ej⟩ := List.getElem?_eq_some_iff.mp hj
    rcases Nat.lt_trichotomy i j with c | c | c
    · have := hpw i j li lj c
      rw [ei, ej] at this
      omega
    · exact c
    · have := hpw j i lj li c
      rw [ei, ej] at this
      omega
  · have := mws_mem.mp (show (q.1, q.2) ∈ mws h N from List.mem_of_getElem? hk)
    exact (hP q.1 q.2 this.2).1
theorem mws_P {G : mG} {h : mH} {H : Heap} (hP : mP G h H) (N : Nat) : va_P (gD G) vwCl (mws h N) H := by
  intro k q hk
  have := mws_mem.mp (show (q.1, q.2) ∈ mws h N from List.mem_of_getElem? hk)
  exact (hP q.1 q.2 this.2).2
theorem mws_at {G : mG} {h : mH} {H : Heap} (hP : mP G h H) {x : Nat} {e : va_E} (hx : h x = some e) : ∃ q0 : Nat, (mws h H.size)[q0]? = some (x, e) := by
  have h1 := (hP x e hx).2.lt
  exact List.getElem?_of_mem (mws_mem.mpr ⟨h1, hx⟩)
theorem mP_set {G : mG} {h : mH} {H H1 : Heap} (hP : mP G h H) {x q0 : Nat} {e e1 : va_E} (hx : h x = some e) (hq : (mws h H.size)[q0]? = some (x, e)) (hP1 : va_P (gD G) vwCl ((mws h H.size).set q0 (x, e1)) H1) : mP G (mset h x e1) H1 := by
  intro y ey hy
  by_cases c : y = x
  · subst c
    rw [mset_same] at hy
    cases hy
    refine ⟨(hP y e hx).1, hP1 q0 _ ?_⟩
    rw [List.getElem?_set_self (List.getElem?_eq_some_iff.mp hq).1]
  · rw [mset_ne c] at hy
    obtain ⟨i, hi⟩ := mws_at hP hy
    refine ⟨(hP y ey hy).1, hP1 i _ ?_⟩
    have hne : q0 ≠ i := by
      intro ee
      subst ee
      rw [hq] at hi
      cases hi
      exact c rfl
    rw [List.getElem?_set_ne hne]
    exact hi
theorem mP_push {G : mG} {h : mH} {H H1 : Heap} (hP : mP G h H) (hB : gB G ≤ H.size) {e1 : va_E} (hP1 : va_P (gD G) vwCl (mws h H.size ++ [(H.size, e1)]) H1) : mP G (mset h H.size e1) H1 := by
  intro y ey hy
  by_cases c : y = H.size
  · subst c
    rw [mset_same] at hy
    cases hy
    refine ⟨hB, hP1 (mws h H.size).length _ ?_⟩
    rw [List.getElem?_append_right (Nat.le_refl _)]
    simp
  · rw [mset_ne c] at hy
    obtain ⟨i, hi⟩ := mws_at hP hy
    refine ⟨(hP y ey hy).1, hP1 i _ ?_⟩
    rw [List.getElem?_append_left (List.getElem?_eq_some_iff.mp hi).1]
    exact hi
/-! methods -/
def mCls (M : mI) : Nat := M.1
def mNm (M : mI) : MethodName := M.2.1
def mCd (M : mI) : ByteArray := M.2.2.1
def mMx (M : mI) : Nat := M.2.2.2.1
def mRt (M : mI) : Option FieldType := M.2.2.2.2.1
def mOps (M : mI) : List (Nat × mE) := M.2.2.2.2.2
def mft (M : mI) (pc : Nat) : Option mE := ((mOps M).find? (fun q => q.1 == pc)).map (fun q => q.2)
def mWd (M : mI) : List Cond := Cond.code (mNm M) (mCd M) (mMx M) (mRt M) :: lw_g
def mRm (d mc ms : Nat) : Room := { frames := d, cells := mc, slots := ms, locals := 64 * d }
def mIn (G : mG) (h : mH) (N : Nat) (U : State) : Prop := U.heap.size = N ∧ mP G h U.heap ∧ va_K (gD G) vwCl (gT G) U ∧ gS G U U.heap ∧ gB G ≤ N
def mQ (G : mG) (mc : Nat) (post : Option Value → mH → Prop) : Array Value → State → Outcome → State → Prop := fun _ st o t => (∃ (r : Option Value) (h : mH), o = .returned r ∧ post r h ∧ t.heap.size = st.heap.size + mc ∧ mP G h t.heap) ∧ va_F (gA G) st t
def MC (G : mG) (M : mI) (d mc ms : Nat) (args : List Value) (h : mH) (N : Nat) (post : Option Value → mH → Prop) : Prop :=
  Met G.1 (mNm M) (mWd M) (mRm d mc ms) (va_Pc args (mIn G h N)) (mQ G mc post) mc ms (gA G)
def mCx (G : mG) (M : mI) (p : Program) (s : State) (m : MethodId) (args : Array Value) (meth : Method) (c : Code) : Prop :=
  p.tables.exec = Jvm.exec ∧ c.code = mCd M ∧ meth.sig.returnType = mRt M ∧ c.maxLocals = mMx M ∧ s.vm.findClass (mOwn (mCls M)) = some m.cls ∧ (∀ w ∈ lw_g, w.before args s = true) ∧ meth.locks = false ∧ va_K (gD G) vwCl (gT G) s ∧ gS G s s.heap ∧ gB G ≤ s.heap.size ∧ ((mNm M).name = "<init>" → meth.name = "<init>")
def mLoc (ls : Array Slot) (n : Nat) (L : mL) : Prop := ls.size = n ∧ L.length = n ∧ lv_wf ls ∧ ∀ (i : Nat) (v : Value), L[i]? = some (some v) → ls[i]? = some (.val v)
def MW (G : mG) (M : mI) (Z : mZ) (pc : Nat) (L : mL) (st : List Value) (h : mH) (al : mAl) : Prop :=
  ∀ (p : Program) (e : Env) (s : State) (m : MethodId) (args : Array Value) (below : List Frame) (meth : Method) (c : Code), mCx G M p s m args meth c → Z.2.2 args s →
    ∀ (H : Heap) (locs : List Loc) (ls : Array Slot), al.1 = s.heap.size + al.2.1 ∧ al.1 ≤ H.size ∧ al.2.1 ≤ Z.1.cells ∧ al.2.2 ≤ Z.1.slots → mP G h H → va_S (gA G) s.heap H locs → mLoc ls (mMx M) L →
      W p G.1 e Z.1 s m args below meth c H locs al.2.1 al.2.2 (Z.2.1 below args s) (F0 m pc ls st)
/-- the end of a method: the room, and what holds -/
def mz (G : mG) (d mc ms : Nat) (post : Option Value → mH → Prop) : mZ := (mRm d mc ms, fun below args s => MQ below (mQ G mc post) args s mc ms (gA G), fun _ _ => True)
/-! what an instruction asks, by its operands -/
def w_i (st : List Value) (f : Int32 → List Value → Prop) : Prop := match st with | .int x :: r => f x r | _ => False
def w_ii (st : List Value) (f : Int32 → Int32 → List Value → Prop) : Prop := match st with | .int y :: .int x :: r => f x y r | _ => False
def w_l (st : List Value) (f : Int64 → List Value → Prop) : Prop := match st with | .long x :: r => f x r | _ => False
def w_ll (st : List Value) (f : Int64 → Int64 → List Value → Prop) : Prop := match st with | .long y :: .long x :: r => f x y r | _ => False
def w_li (st : List Value) (f : Int64 → Int32 → List Value → Prop) : Prop := match st with | .int y :: .long x :: r => f x y r | _ => False
def w_r (st : List Value) (f : Nat → List Value → Prop) : Prop := match st with | .ref x :: r => f x r | _ => False
def w_ri (st : List Value) (f : Nat → Int32 → List Value → Prop) : Prop := match st with | .int i :: .ref x :: r => f x i r | _ => False
def w_rii (st : List Value) (f : Nat → Int32 → Int32 → List Value → Prop) : Prop := match st with | .int v :: .int i :: .ref x :: r => f x i v r | _ => False
def w_rir (st : List Value) (f : Nat → Int32 → Nat → List Value → Prop) : Prop := match st with | .ref v :: .int i :: .ref x :: r => f x i v r | _ => False
def w_rv (st : List Value) (f : Nat → Value → List Value → Prop) : Prop := match st with | v :: .ref x :: r => f x v r | _ => False
def w_cp (st : List Value) (f : Nat → Int32 → Nat → Int32 → Int32 → List Value → Prop) : Prop := match st with | .int n :: .int dp :: .ref y :: .int sp :: .ref x :: r => f x sp y dp n r | _ => False
theorem w_i_inv {st : List Value} {f : Int32 → List Value → Prop} (h : w_i st f) : ∃ x r, st = .int x :: r ∧ f x r := by
  unfold w_i at h
  split at h
  · exact ⟨_, _, rfl, h⟩
  · exact h.elim
theorem w_ii_inv {st : List Value} {f : Int32 → Int32 → List Value → Prop} (h : w_ii st f) : ∃ x y r, st = .int y :: .int x :: r ∧ f x y r := by
  unfold w_ii at h
  split at h
  · exact ⟨_, _, _, rfl, h⟩
  · exact h.elim
theorem w_l_inv {st : List Value} {f : Int64 → List Value → Prop} (h : w_l st f) : ∃ x r, st = .long x :: r ∧ f x r := by
  unfold w_l at h
  split at h
  · exact ⟨_, _, rfl, h⟩
  · exact h.elim
theorem w_ll_inv {st : List Value} {f : Int64 → Int64 → List Value → Prop} (h : w_ll st f) : ∃ x y r, st = .long y :: .long x :: r ∧ f x y r := by
  unfold w_ll at h
  split at h
  · exact ⟨_, _, _, rfl, h⟩
  · exact h.elim
theorem w_li_inv {st : List Value} {f : Int64 → Int32 → List Value → Prop} (h : w_li st f) : ∃ x y r, st = .int y :: .long x :: r ∧ f x y r := by
  unfold w_li at h
  split at h
  · exact ⟨_, _, _, rfl, h⟩
  · exact h.elim
theorem w_r_inv {st : List Value} {f : Nat → List Value → Prop} (h : w_r st f) : ∃ x r, st = .ref x :: r ∧ f x r := by
  unfold w_r at h
  split at h
  · exact ⟨_, _, rfl, h⟩
  · exact h.elim
theorem w_ri_inv {st : List Value} {f : Nat → Int32 → List Value → Prop} (h : w_ri st f) : ∃ x i r, st = .int i :: .ref x :: r ∧ f x i r := by
  unfold w_ri at h
  split at h
  · exact ⟨_, _, _, rfl, h⟩
  · exact h.elim
theorem w_rii_inv {st : List Value} {f : Nat → Int32 → Int32 → List Value → Prop} (h : w_rii st f) : ∃ x i v r, st = .int v :: .int i :: .ref x :: r ∧ f x i v r := by
  unfold w_rii at h
  split at h
  · exact ⟨_, _, _, _, rfl, h⟩
  · exact h.elim
theorem w_rir_inv {st : List Value} {f : Nat → Int32 → Nat → List Value → Prop} (h : w_rir st f) : ∃ x i v r, st = .ref v :: .int i :: .ref x :: r ∧ f x i v r := by
  unfold w_rir at h
  split at h
  · exact ⟨_, _, _, _, rfl, h⟩
  · exact h.elim
theorem w_rv_inv {st : List Value} {f : Nat → Value → List Value → Prop} (h : w_rv st f) : ∃ x v r, st = v :: .ref x :: r ∧ f x v r := by
  unfold w_rv at h
  split at h
  · exact ⟨_, _, _, rfl, h⟩
  · exact h.elim
theorem w_cp_inv {st : List Value} {f : Nat → Int32 → Nat → Int32 → Int32 → List Value → Prop} (h : w_cp st f) : ∃ x sp y dp n r, st = .int n :: .int dp :: .ref y :: .int sp :: .ref x :: r ∧ f x sp y dp n r := by
  unfold w_cp at h
  split at h
  · exact ⟨_, _, _, _, _, _, rfl, h⟩
  · exact h.elim
/-! a cell, by its form -/
def w_ob (h : mH) (x c : Nat) (f : List Value → Prop) : Prop := match h x with | some (.inr (c', fs)) => c' = c ∧ f fs | _ => False
def w_ai (h : mH) (x : Nat) (c : ClassId) (f : Nat → (Nat → Int32) → Prop) : Prop := match h x with | some (.inl (c', n, .inl g)) => c' = c ∧ f n g | _ => False
def w_ar (h : mH) (x : Nat) (c : ClassId) (f : Nat → (Nat → Option Nat) → Prop) : Prop := match h x with | some (.inl (c', n, .inr (.inr (.inr (.inr g))))) => c' = c ∧ f n g | _ => False
theorem w_ob_inv {h : mH} {x c : Nat} {f : List Value → Prop} (q : w_ob h x c f) : ∃ fs, h x = some (.inr (c, fs)) ∧ f fs := by
  unfold w_ob at q
  split at q
  next c' fs e => obtain ⟨rfl, q⟩ := q; exact ⟨fs, e, q⟩
  next => exact q.elim
theorem w_ai_inv {h : mH} {x : Nat} {c : ClassId} {f : Nat → (Nat → Int32) → Prop} (q : w_ai h x c f) : ∃ n g, h x = some (.inl (c, n, .inl g)) ∧ f n g := by
  unfold w_ai at q
  split at q
  next c' n g e => obtain ⟨rfl, q⟩ := q; exact ⟨n, g, e, q⟩
  next => exact q.elim
theorem w_ar_inv {h : mH} {x : Nat} {c : ClassId} {f : Nat → (Nat → Option Nat) → Prop} (q : w_ar h x c f) : ∃ n g, h x = some (.inl (c, n, .inr (.inr (.inr (.inr g))))) ∧ f n g := by
  unfold w_ar at q
  split at q
  next c' n g e => obtain ⟨rfl, q⟩ := q; exact ⟨n, g, e, q⟩
  next => exact q.elim
def w_o {α : Type} (o : Option α) (f : α → Prop) : Prop := match o with | some v => f v | none => False
theorem w_o_inv {α : Type} {o : Option α} {f : α → Prop} (q : w_o o f) : ∃ v, o = some v ∧ f v := by
  unfold w_o at q
  split at q
  · exact ⟨_, rfl, q⟩
  · exact q.elim
theorem w_ob_of {h : mH} {x c : Nat} {f : List Value → Prop} {fs : List Value} (e : h x = some (.inr (c, fs))) (q : f fs) : w_ob h x c f := by unfold w_ob; rw [e]; exact ⟨rfl, q⟩
theorem w_ai_of {h : mH} {x : Nat} {c : ClassId} {f : Nat → (Nat → Int32) → Prop} {n : Nat} {g : Nat → Int32} (e : h x = some (.inl (c, n, .inl g))) (q : f n g) : w_ai h x c f := by unfold w_ai; rw [e]; exact ⟨rfl, q⟩
theorem w_ar_of {h : mH} {x : Nat} {c : ClassId} {f : Nat → (Nat → Option Nat) → Prop} {n : Nat} {g : Nat → Option Nat} (e : h x = some (.inl (c, n, .inr (.inr (.inr (.inr g)))))) (q : f n g) : w_ar h x c f := by unfold w_ar; rw [e]; exact ⟨rfl, q⟩
/-- a store into place i does not break a long -/
def mOk1 (L : mL) (i : Nat) : Prop := match i with | 0 => True | j + 1 => match L[j]? with | some (some v) => v.category = 1 | _ => True
def mfit (ty : FieldType) (v : Value) : Prop := match ty, v with
  | .int, .int _ => True
  | .boolean, .int x => x = 0 ∨ x = 1
  | .object _, .ref _ => True
  | .array _, .ref _ => True
  | _, _ => False
theorem mfit_ok {ty : FieldType} {v : Value} (h : mfit ty v) : narrow ty v = v ∧ fits ty v = true := by
  unfold mfit at h
  split at h
  · exact ⟨rfl, rfl⟩
  · rcases h with rfl | rfl
    · exact ⟨by decide, by decide⟩
    · exact ⟨by decide, by decide⟩
  · exact ⟨rfl, rfl⟩
  · exact ⟨rfl, rfl⟩
  · exact h.elim
def mrt (ty : Option FieldType) (x : Int32) : Prop := match ty with
  | some .int => True
  | some .boolean => x = 0 ∨ x = 1
  | _ => False
def mpop : Nat → List Value → List Value → Option (List Value × List Value)
  | 0, acc, st => some (acc, st)
  | n + 1, acc, v :: st => mpop n (v :: acc) st
  | _ + 1, _, [] => none
theorem mpop_eq : ∀ (n : Nat) (acc st a r : List Value), mpop n acc st = some (a, r) → ∃ b : List Value, a = b.reverse ++ acc ∧ st = b ++ r ∧ b.length = n
  | 0, acc, st, a, r, h => by cases h; exact ⟨[], rfl, rfl, rfl⟩
  | n + 1, acc, v :: st, a, r, h => by
    obtain ⟨b, h1, h2, h3⟩ := mpop_eq n (v :: acc) st a r h
    exact ⟨v :: b, by rw [h1]; simp, by rw [h2]; rfl, by simp [h3]⟩
  | _ + 1, _, [], _, _, h => by cases h
def mstW (r : List Value) : Nat := (r.map fun v => v.category).sum
/-- what a constructor makes: cells, slots -/
def mCost (c : Nat) : Nat × Nat := match c with
  | 0 => (3, 91)
  | 1 => (2, 6)
  | 2 => (1, 62)
  | 3 => (38, 484)
  | 4 => (1, 120)
  | 5 => (45, 663)
  | 6 => (136, 2500)
  | 7 => (17, 2100)
  | _ => (0, 0)
def mcmp (c : ClassFile.Cond) (x y : Int32) : Prop := match c with
  | .eq => x = y
  | .ne => ¬ x = y
  | .lt => x < y
  | .ge => y ≤ x
  | .gt => y < x
  | .le => x ≤ y
/-! what is asked of one value, of a list: unfolded from the outside -/
def w_int (x : Value) (f : Int32 → Prop) : Prop := match x with | .int y => f y | _ => False
def w_ref (x : Value) (f : Nat → Prop) : Prop := match x with | .ref y => f y | _ => False
def w_lng (x : Value) (f : Int64 → Prop) : Prop := match x with | .long y => f y | _ => False
theorem w_int_inv {x : Value} {f : Int32 → Prop} (h : w_int x f) : ∃ y, x = .int y ∧ f y := by
  unfold w_int at h
  split at h
  · exact ⟨_, rfl, h⟩
  · exact h.elim
theorem w_ref_inv {x : Value} {f : Nat → Prop} (h : w_ref x f) : ∃ y, x = .ref y ∧ f y := by
  unfold w_ref at h
  split at h
  · exact ⟨_, rfl, h⟩
  · exact h.elim
theorem w_lng_inv {x : Value} {f : Int64 → Prop} (h : w_lng x f) : ∃ y, x = .long y ∧ f y := by
  unfold w_lng at h
  split at h
  · exact ⟨_, rfl, h⟩
  · exact h.elim
def w_set (L : mL) (i : Nat) (v : Option Value) (f : mL → Prop) : Prop := f (L.set i v)
def w_fset (L : List Value) (i : Nat) (v : Value) (f : List Value → Prop) : Prop := f (L.set i v)
def w_dup (st : List Value) (f : Value → List Value → Prop) : Prop := match st with | x :: r => x.category = 1 ∧ f x r | _ => False
def w_dup2 (st : List Value) (f : Value → Value → List Value → Prop) : Prop := match st with | x :: y :: r => x.category = 1 ∧ y.category = 1 ∧ f x y r | _ => False
def w_pop (n : Nat) (acc st : List Value) (f : List Value → List Value → Prop) : Prop := w_o (mpop n acc st) fun q => f q.1 q.2
/-- a value as a field's kind has it: 0 int, 1 boolean, 2 reference -/
def w_fit (c : Nat) (v : Value) (P : Prop) : Prop := match c, v with
  | 0, .int _ => P
  | 1, .int x => (x = 0 ∨ x = 1) ∧ P
  | 2, .ref _ => P
  | _, _ => False
/-- the answer: 0 int, 1 boolean -/
def w_ret (c : Nat) (st : List Value) (f : Int32 → Prop) : Prop := match c, st with
  | 0, [.int x] => f x
  | 1, [.int x] => (x = 0 ∨ x = 1) ∧ f x
  | _, _ => False
def w_rtr (st : List Value) (f : Nat → Prop) : Prop := match st with | [.ref x] => f x | _ => False
def w_rtv (st : List Value) (P : Prop) : Prop := match st with | [] => P | _ => False
/-- what stands behind a call -/
def w_k (k : Nat → mL → List Value → mH → mAl → Prop) (nx : Nat) (L : mL) (r : List Value) (al : mAl) : Option Value → mH → Prop := fun rv h' => k nx L (rv.toList ++ r) h' al
def wpI (G : mG) (d : Nat) (R : Room) (ret : Option Value → mH → mAl → Prop) (k : Nat → mL → List Value → mH → mAl → Prop) (e : mE) (L : mL) (st : List Value) (h : mH) (al : mAl) : Prop :=
  match e with
  | (ins, nx, a, b, c, v, w) => match ins with
    | .iconst _ => k nx L (.int v :: st) h al
    | .bipush _ => k nx L (.int v :: st) h al
    | .sipush _ => k nx L (.int v :: st) h al
    | .lconst _ => k nx L (.long w :: st) h al
    | .ldc2_w _ => k nx L (.long w :: st) h al
    | .iload_n _ => w_o (L.getD a none) fun x => w_int x fun x => k nx L (.int x :: st) h al
    | .iload _ => w_o (L.getD a none) fun x => w_int x fun x => k nx L (.int x :: st) h al
    | .aload_n _ => w_o (L.getD a none) fun x => w_ref x fun x => k nx L (.ref x :: st) h al
    | .aload _ => w_o (L.getD a none) fun x => w_ref x fun x => k nx L (.ref x :: st) h al
    | .lload_n _ => w_o (L.getD a none) fun x => w_lng x fun x => k nx L (.long x :: st) h al
    | .lload _ => w_o (L.getD a none) fun x => w_lng x fun x => k nx L (.long x :: st) h al
    | .istore_n _ => w_i st fun x r => mOk1 L a ∧ w_set L a (some (.int x)) fun L => k nx L r h al
    | .istore _ => w_i st fun x r => mOk1 L a ∧ w_set L a (some (.int x)) fun L => k nx L r h al
    | .astore_n _ => w_r st fun x r => mOk1 L a ∧ w_set L a (some (.ref x)) fun L => k nx L r h al
    | .astore _ => w_r st fun x r => mOk1 L a ∧ w_set L a (some (.ref x)) fun L => k nx L r h al
    | .lstore _ => w_l st fun x r => mOk1 L a ∧ a + 1 < L.length ∧ w_set L (a + 1) none fun L => w_set L a (some (.long x)) fun L => k nx L r h al
    | .iinc _ _ => w_o (L.getD a none) fun x => w_int x fun x => mOk1 L a ∧ w_set L a (some (.int (x + v))) fun L => k nx L st h al
    | .dup => w_dup st fun x r => k nx L (x :: x :: r) h al
    | .dup2 => w_dup2 st fun x y r => k nx L (x :: y :: x :: y :: r) h al
    | .iadd => w_ii st fun x y r => k nx L (.int (x + y) :: r) h al
    | .isub => w_ii st fun x y r => k nx L (.int (x - y) :: r) h al
    | .imul => w_ii st fun x y r => k nx L (.int (x * y) :: r) h al
    | .idiv => w_ii st fun x y r => ¬ y = 0 ∧ k nx L (.int (x / y) :: r) h al
    | .irem => w_ii st fun x y r => ¬ y = 0 ∧ k nx L (.int (x - x / y * y) :: r) h al
    | .iand => w_ii st fun x y r => k nx L (.int (x &&& y) :: r) h al
    | .ior => w_ii st fun x y r => k nx L (.int (x ||| y) :: r) h al
    | .ixor => w_ii st fun x y r => k nx L (.int (x ^^^ y) :: r) h al
    | .ishl => w_ii st fun x y r => k nx L (.int (x <<< (y &&& 31)) :: r) h al
    | .ishr => w_ii st fun x y r => k nx L (.int (x >>> (y &&& 31)) :: r) h al
    | .iushr => w_ii st fun x y r => k nx L (.int (x.toUInt32 >>> (y.toUInt32 &&& Int32.toUInt32 31)).toInt32 :: r) h al
    | .ineg => w_i st fun x r => k nx L (.int (-x) :: r) h al
    | .i2l => w_i st fun x r => k nx L (.long x.toInt64 :: r) h al
    | .i2b => w_i st fun x r => k nx L (.int x.toInt8.toInt32 :: r) h al
    | .i2s => w_i st fun x r => k nx L (.int x.toInt16.toInt32 :: r) h al
    | .i2c => w_i st fun x r => k nx L (.int (x.toUInt32 % 65536).toInt32 :: r) h al
    | .l2i => w_l st fun x r => k nx L (.int x.toInt32 :: r) h al
    | .ladd => w_ll st fun x y r => k nx L (.long (x + y) :: r) h al
    | .land => w_ll st fun x y r => k nx L (.long (x &&& y) :: r) h al
    | .lor => w_ll st fun x y r => k nx L (.long (x ||| y) :: r) h al
    | .lcmp => w_ll st fun x y r => k nx L (.int (lg_cmp x y) :: r) h al
    | .lshl => w_li st fun x y r => k nx L (.long (x <<< (y.toInt64 &&& 63)) :: r) h al
    | .lshr => w_li st fun x y r => k nx L (.long (x >>> (y.toInt64 &&& 63)) :: r) h al
    | .ifCond c _ => w_i st fun x r => (mcmp c x 0 → k a L r h al) ∧ (¬ mcmp c x 0 → k nx L r h al)
    | .if_icmp c _ => w_ii st fun x y r => (mcmp c x y → k a L r h al) ∧ (¬ mcmp c x y → k nx L r h al)
    | .goto _ => k a L st h al
    | .getfield _ => w_r st fun x r => w_ob h x a fun fs => w_o fs[b]? fun v => k nx L (v :: r) h al
    | .putfield _ => w_rv st fun x v r => w_ob h x a fun fs => b < fs.length ∧ w_fit c v (w_fset fs b v fun fs => k nx L r (mset h x (.inr (a, fs))) al)
    | .iaload => w_ri st fun x i r => w_ai h x (gC G 0) fun n f => vp_in i n ∧ k nx L (.int (f i.toNatClampNeg) :: r) h al
    | .baload => w_ri st fun x i r => w_ai h x (gC G a) fun n f => vp_in i n ∧ k nx L (.int (f i.toNatClampNeg) :: r) h al
    | .aaload => w_ri st fun x i r => w_ar h x (gC G a) fun n f => vp_in i n ∧ w_o (f i.toNatClampNeg) fun y => k nx L (.ref y :: r) h al
    | .iastore => w_rii st fun x i v r => w_ai h x (gC G 0) fun n f => vp_in i n ∧ k nx L r (mset h x (.inl (gC G 0, n, .inl (upd f i.toNatClampNeg v)))) al
    | .bastore => w_rii st fun x i v r => w_ai h x (gC G a) fun n f => vp_in i n ∧ k nx L r (mset h x (.inl (gC G a, n, .inl (upd f i.toNatClampNeg (vp_nar (if a = 1 then .byte else .boolean) v))))) al
    | .invokevirtual _ => if a = 999 then False else w_pop b [] st fun As st => w_r st fun x r => w_ob h x c fun _ => 1 ≤ d ∧ mstW r ≤ 8 ∧ MC G (mtab a) (d - 1) 0 0 (.ref x :: As) h al.1 (w_k k nx L r al)
    | .invokestatic _ =>
      if a = 1000 then w_cp st fun x sp y dp n r => w_ai h x (gC G 0) fun n0 f => w_ai h y (gC G 0) fun n1 g => 1 ≤ d ∧ mstW r ≤ 8 ∧ ¬ sp < 0 ∧ ¬ dp < 0 ∧ ¬ n < 0 ∧ sp.toNatClampNeg + n.toNatClampNeg ≤ n0 ∧ dp.toNatClampNeg + n.toNatClampNeg ≤ n1 ∧ k nx L r (mset h y (.inl (gC G 0, n1, .inl (va_cpy f g sp.toNatClampNeg dp.toNatClampNeg n.toNatClampNeg)))) al
      else if a = 1010 then w_ii st fun x y r => 1 ≤ d ∧ mstW r ≤ 8 ∧ k nx L (.int (if x < y then y else x) :: r) h al
      else if a = 1011 then w_ii st fun x y r => 1 ≤ d ∧ mstW r ≤ 8 ∧ k nx L (.int (if y < x then y else x) :: r) h al
      else if a = 1012 then w_i st fun x r => 1 ≤ d ∧ mstW r ≤ 8 ∧ k nx L (.int (if 0 ≤ x then x else 0 - x) :: r) h al
      else if a = 1013 then False
      else w_pop b [] st fun As r => 1 ≤ d ∧ mstW r ≤ 8 ∧ MC G (mtab a) (d - 1) 0 0 As h al.1 (w_k k nx L r al)
    | .invokespecial _ =>
      if a = 1001 then w_r st fun _ r => 1 ≤ d ∧ mstW r ≤ 8 ∧ k nx L r h al
      else w_pop b [] st fun As st => w_r st fun x r => 1 ≤ d ∧ mstW r ≤ 8 ∧ al.2.1 + (mCost c).1 ≤ R.cells ∧ al.2.2 + (mCost c).2 ≤ R.slots ∧ MC G (mtab a) (d - 1) (mCost c).1 (mCost c).2 (.ref x :: As) h al.1 (w_k k nx L r (al.1 + (mCost c).1, al.2.1 + (mCost c).1, al.2.2 + (mCost c).2))
    | .ireturn => w_ret c st fun x => ret (some (.int x)) h al
    | .areturn => w_rtr st fun x => ret (some (.ref x)) h al
    | .return_ => w_rtv st (ret none h al)
    | _ => False
