/-! arcs: a strand from its birth to its death, straight on through all crosses -/
def bth (es : List Ev) (x : Nat) : Nat := (es.take x).countP (fun e => e.1 == 0)
theorem bth_succ {es : List Ev} {x : Nat} (h : x < es.length) : bth es (x + 1) = bth es x + (if evK es x = 0 then 1 else 0) := by
  unfold bth
  rw [take_snoc h, List.countP_append]
  show _ = _ + (if (es.getD x (0, 0)).1 = 0 then 1 else 0)
  by_cases c : (es.getD x (0, 0)).1 = 0 <;> simp [c]
theorem bth_zero (es : List Ev) : bth es 0 = 0 := by simp [bth]
def arcF (es : List Ev) : Nat → Nat → Nat
  | 0, _ => 0
  | x + 1, y =>
    if evK es x = 0 then (if y < evP es x then arcF es x y else if y = evP es x then 2 * bth es x else if y = evP es x + 1 then 2 * bth es x + 1 else arcF es x (y - 2))
    else if evK es x = 1 then (if y = evP es x then arcF es x (evP es x + 1) else if y = evP es x + 1 then arcF es x (evP es x) else arcF es x y)
    else (if y < evP es x then arcF es x y else arcF es x (y + 2))
/-- strands ahead of event x -/
def aN (es : List Ev) (x : Nat) : Nat := ahL (es.take x)
theorem aN_zero (es : List Ev) : aN es 0 = 0 := by simp [aN, ahL]
theorem aN_succ {es : List Ev} {x : Nat} (h : x < es.length) : aN es (x + 1) = stp (aN es x) (evK es x) := ahL_take h
theorem aN_full (es : List Ev) : aN es es.length = ahL es := by unfold aN; rw [List.take_length]
/-- what validity says of event x -/
theorem ev_ok {es : List Ev} (hv : vld es) {x : Nat} (h : x < es.length) : evK es x ≤ 2 ∧ aN es x ≤ 10 ∧ (evK es x = 0 → aN es x + 2 ≤ 10 ∧ evP es x ≤ aN es x ∧ aN es (x + 1) = aN es x + 2) ∧ (evK es x = 1 → evP es x + 2 ≤ aN es x ∧ aN es (x + 1) = aN es x) ∧ (evK es x = 2 → evP es x + 2 ≤ aN es x ∧ aN es (x + 1) + 2 = aN es x) := by
  have o := vld_at hv h
  have b := (vld_le hv x (by omega)).2.1
  have s := aN_succ h
  unfold stp at s
  obtain ⟨o1, o2, o3, o4, o5⟩ := o
  unfold aN at *
  refine ⟨o1, b, fun c => ?_, fun c => ?_, fun c => ?_⟩
  · rw [if_pos c] at o5 s
    exact ⟨o4 c, o5, s⟩
  · rw [if_neg (by omega)] at o5
    rw [if_neg (by omega), if_neg (by omega)] at s
    exact ⟨o5, s⟩
  · rw [if_neg (by omega)] at o5
    rw [if_neg (by omega), if_pos c] at s
    omega
theorem arc_b0 {es : List Ev} {x y : Nat} (h : evK es x = 0) (h2 : y < evP es x) : arcF es (x + 1) y = arcF es x y := by
  show (if _ then _ else _) = _
  rw [if_pos h, if_pos h2]
theorem arc_b1 {es : List Ev} {x : Nat} (h : evK es x = 0) : arcF es (x + 1) (evP es x) = 2 * bth es x := by
  show (if _ then _ else _) = _
  rw [if_pos h, if_neg (by omega), if_pos rfl]
theorem arc_b2 {es : List Ev} {x : Nat} (h : evK es x = 0) : arcF es (x + 1) (evP es x + 1) = 2 * bth es x + 1 := by
  show (if _ then _ else _) = _
  rw [if_pos h, if_neg (by omega), if_neg (by omega), if_pos rfl]
theorem arc_b3 {es : List Ev} {x y : Nat} (h : evK es x = 0) (h2 : evP es x + 1 < y) : arcF es (x + 1) y = arcF es x (y - 2) := by
  show (if _ then _ else _) = _
  rw [if_pos h, if_neg (by omega), if_neg (by omega), if_neg (by omega)]
theorem arc_c0 {es : List Ev} {x y : Nat} (h : evK es x = 1) (h2 : y ≠ evP es x) (h3 : y ≠ evP es x + 1) : arcF es (x + 1) y = arcF es x y := by
  show (if _ then _ else _) = _
  rw [if_neg (by omega), if_pos h, if_neg h2, if_neg h3]
theorem arc_c1 {es : List Ev} {x : Nat} (h : evK es x = 1) : arcF es (x + 1) (evP es x) = arcF es x (evP es x + 1) := by
  show (if _ then _ else _) = _
  rw [if_neg (by omega), if_pos h, if_pos rfl]
theorem arc_c2 {es : List Ev} {x : Nat} (h : evK es x = 1) : arcF es (x + 1) (evP es x + 1) = arcF es x (evP es x) := by
  show (if _ then _ else _) = _
  rw [if_neg (by omega), if_pos h, if_neg (by omega), if_pos rfl]
theorem arc_d0 {es : List Ev} {x y : Nat} (h : evK es x = 2) (h2 : y < evP es x) : arcF es (x + 1) y = arcF es x y := by
  show (if _ then _ else _) = _
  rw [if_neg (by omega), if_neg (by omega), if_pos h2]
theorem arc_d1 {es : List Ev} {x y : Nat} (h : evK es x = 2) (h2 : evP es x ≤ y) : arcF es (x + 1) y = arcF es x (y + 2) := by
  show (if _ then _ else _) = _
  rw [if_neg (by omega), if_neg (by omega), if_neg (by omega)]
/-- behind event x a strand is new, or one from ahead of it that did not end there -/
theorem arc_src {es : List Ev} (hv : vld es) {x y : Nat} (h : x < es.length) (hy : y < aN es (x + 1)) : (evK es x = 0 ∧ ((y = evP es x ∧ arcF es (x + 1) y = 2 * bth es x) ∨ (y = evP es x + 1 ∧ arcF es (x + 1) y = 2 * bth es x + 1))) ∨ ∃ z, z < aN es x ∧ arcF es (x + 1) y = arcF es x z ∧ (evK es x = 2 → z ≠ evP es x ∧ z ≠ evP es x + 1) ∧ (if evK es x = 0 then y = (if z < evP es x then z else z + 2) else if evK es x = 1 then y = (if z = evP es x then evP es x + 1 else if z = evP es x + 1 then evP es x else z) else y = (if z < evP es x then z else z - 2)) := by
  obtain ⟨k2, a10, e0, e1, e2⟩ := ev_ok hv h
  rcases (by omega : evK es x = 0 ∨ evK es x = 1 ∨ evK es x = 2) with c | c | c
  · obtain ⟨f1, f2, f3⟩ := e0 c
    rcases (by omega : y < evP es x ∨ y = evP es x ∨ y = evP es x + 1 ∨ evP es x + 1 < y) with q | q | q | q
    · exact Or.inr ⟨y, by omega, arc_b0 c q, fun z => by omega, by rw [if_pos c, if_pos q]⟩
    · exact Or.inl ⟨c, Or.inl ⟨q, by rw [q]; exact arc_b1 c⟩⟩
    · exact Or.inl ⟨c, Or.inr ⟨q, by rw [q]; exact arc_b2 c⟩⟩
    · exact Or.inr ⟨y - 2, by omega, arc_b3 c q, fun z => by omega, by rw [if_pos c, if_neg (by omega)]; omega⟩
  · obtain ⟨f1, f2⟩ := e1 c
    rcases (by omega : y = evP es x ∨ y = evP es x + 1 ∨ (y ≠ evP es x ∧ y ≠ evP es x + 1)) with q | q | q
    · exact Or.inr ⟨evP es x + 1, by omega, by rw [q]; exact arc_c1 c, fun z => by omega, by rw [if_neg (by omega), if_pos c, if_neg (by omega), if_pos rfl]; exact q⟩
    · exact Or.inr ⟨evP es x, by omega, by rw [q]; exact arc_c2 c, fun z => by omega, by rw [if_neg (by omega), if_pos c, if_pos rfl]; exact q⟩
    · exact Or.inr ⟨y, by omega, arc_c0 c q.1 q.2, fun z => by omega, by rw [if_neg (by omega), if_pos c, if_neg q.1, if_neg q.2]⟩
  · obtain ⟨f1, f2⟩ := e2 c
    rcases (by omega : y < evP es x ∨ evP es x ≤ y) with q | q
    · exact Or.inr ⟨y, by omega, arc_d0 c q, fun _ => by omega, by rw [if_neg (by omega), if_neg (by omega), if_pos q]⟩
    · exact Or.inr ⟨y + 2, by omega, arc_d1 c q, fun _ => by omega, by rw [if_neg (by omega), if_neg (by omega), if_neg (by omega)]; omega⟩
theorem arc_lt {es : List Ev} (hv : vld es) : ∀ (x y : Nat), x ≤ es.length → y < aN es x → arcF es x y < 2 * bth es x
  | 0, y, _, hy => by rw [aN_zero] at hy; omega
  | x + 1, y, hx, hy => by
    have hb := bth_succ (es := es) (x := x) (by omega)
    rcases arc_src hv (by omega) hy with ⟨c, q | q⟩ | ⟨z, hz, e, -⟩
    · rw [if_pos c] at hb
      omega
    · rw [if_pos c] at hb
      omega
    · have := arc_lt hv x z (by omega) hz
      rw [e, hb]
      omega
theorem bth_mono {es : List Ev} : ∀ (x y : Nat), x ≤ y → y ≤ es.length → bth es x ≤ bth es y
  | x, 0, h, _ => by rw [Nat.le_zero.mp h]; exact Nat.le_refl _
  | x, y + 1, h, hy => by
    by_cases c : x = y + 1
    · rw [c]; exact Nat.le_refl _
    · have := bth_mono (es := es) x y (by omega) (by omega)
      have := bth_succ (es := es) (x := y) (by omega)
      omega
theorem arc_inj {es : List Ev} (hv : vld es) : ∀ (x y y' : Nat), x ≤ es.length → y < aN es x → y' < aN es x → arcF es x y = arcF es x y' → y = y'
  | 0, y, y', _, hy, _, _ => by rw [aN_zero] at hy; omega
  | x + 1, y, y', hx, hy, hy', e => by
    have hl : x < es.length := by omega
    have ho := ev_ok hv hl
    rcases arc_src hv hl hy with ⟨c, q | q⟩ | ⟨z, hz, e1, n1, r1⟩ <;> rcases arc_src hv hl hy' with ⟨c', q' | q'⟩ | ⟨z', hz', e1', n1', r1'⟩
    · omega
    · omega
    · have := arc_lt hv x z' (by omega) hz'
      omega
    · omega
    · omega
    · have := arc_lt hv x z' (by omega) hz'
      omega
    · have := arc_lt hv x z (by omega) hz
      omega
    · have := arc_lt hv x z (by omega) hz
      omega
    · have ez := arc_inj hv x z z' (by omega) hz hz' (by omega)
      subst ez
      split at r1
      · rename_i c
        rw [if_pos c] at r1'
        omega
      · rename_i c
        rw [if_neg c] at r1'
        split at r1
        · rename_i c1
          rw [if_pos c1] at r1'
          omega
        · rename_i c1
          rw [if_neg c1] at r1'
          omega
/-- an arc that is no more stays so -/
theorem arc_gone {es : List Ev} (hv : vld es) {x : Nat} {a : Nat} (ha : a < 2 * bth es x) (h0 : ∀ y, y < aN es x → arcF es x y ≠ a) : ∀ (k y : Nat), x + k ≤ es.length → y < aN es (x + k) → arcF es (x + k) y ≠ a
  | 0, y, _, hy => h0 y hy
  | k + 1, y, hk, hy => by
    have hb := bth_mono (es := es) x (x + k) (by omega) (by omega)
    rcases arc_src hv (x := x + k) (by omega) hy with ⟨c, q | q⟩ | ⟨z, hz, e, -⟩
    · show arcF es (x + k + 1) y ≠ a
      omega
    · show arcF es (x + k + 1) y ≠ a
      omega
    · show arcF es (x + k + 1) y ≠ a
      rw [e]
      exact arc_gone hv ha h0 k z (by omega) hz
/-- event x ends arc a -/
def ends (es : List Ev) (x a : Nat) : Prop := x < es.length ∧ evK es x = 2 ∧ (arcF es x (evP es x) = a ∨ arcF es x (evP es x + 1) = a)
theorem ends_gone {es : List Ev} (hv : vld es) {x a : Nat} (h : ends es x a) : ∀ x' y, x < x' → x' ≤ es.length → y < aN es x' → arcF es x' y ≠ a := by
  obtain ⟨h1, h2, h3⟩ := h
  have ho := (ev_ok hv h1).2.2.2.2 h2
  have ha : a < 2 * bth es x := by
    rcases h3 with h3 | h3
    · rw [← h3]; exact arc_lt hv x _ (by omega) (by omega)
    · rw [← h3]; exact arc_lt hv x _ (by omega) (by omega)
  have hb := bth_succ (es := es) h1
  intro x' y hx hx' hy
  have := arc_gone hv (x := x + 1) (a := a) (by omega) (fun z hz => ?_) (x' - (x + 1)) y (by omega) (by rw [show x + 1 + (x' - (x + 1)) = x' by omega]; exact hy)
  · rw [show x + 1 + (x' - (x + 1)) = x' by omega] at this
    exact this
  · rcases arc_src hv h1 hz with ⟨c, -⟩ | ⟨w, hw, e, n, -⟩
    · omega
    · rw [e]
      intro ee
      have n := n h2
      rcases h3 with h3 | h3
      · exact n.1 (arc_inj hv x _ _ (by omega) hw (by omega) (ee.trans h3.symm))
      · exact n.2 (arc_inj hv x _ _ (by omega) hw (by omega) (ee.trans h3.symm))
theorem ends_uniq {es : List Ev} (hv : vld es) {x x' a : Nat} (h : ends es x a) (h' : ends es x' a) : x = x' := by
  have key : ∀ u w, ends es u a → ends es w a → ¬ u < w := by
    intro u w hu hw c
    have ho := (ev_ok hv hw.1).2.2.2.2 hw.2.1
    rcases hw.2.2 with q | q
    · exact ends_gone hv hu w _ c (Nat.le_of_lt hw.1) (by omega) q
    · exact ends_gone hv hu w _ c (Nat.le_of_lt hw.1) (by omega) q
  have h1 := key x x' h h'
  have h2 := key x' x h' h
  omega
/-- each arc that is born is there, or has ended -/
theorem arc_all {es : List Ev} (hv : vld es) : ∀ (x a : Nat), x ≤ es.length → a < 2 * bth es x → (∃ y, y < aN es x ∧ arcF es x y = a) ∨ ∃ x', x' < x ∧ ends es x' a
  | 0, a, _, h => by rw [bth_zero] at h; omega
  | x + 1, a, hx, h => by
    have hl : x < es.length := by omega
    have hb := bth_succ (es := es) hl
    obtain ⟨k2, a10, e0, e1, e2⟩ := ev_ok hv hl
    by_cases ha : a < 2 * bth es x
    · rcases arc_all hv x a (by omega) ha with ⟨y, hy, e⟩ | ⟨x', hx', e⟩
      · rcases (by omega : evK es x = 0 ∨ evK es x = 1 ∨ evK es x = 2) with c | c | c
        · have f := e0 c
          by_cases q : y < evP es x
          · exact Or.inl ⟨y, by omega, by rw [arc_b0 c q]; exact e⟩
          · exact Or.inl ⟨y + 2, by omega, by rw [arc_b3 c (by omega), Nat.add_sub_cancel]; exact e⟩
        · have f := e1 c
          by_cases q : y = evP es x
          · exact Or.inl ⟨evP es x + 1, by omega, by rw [arc_c2 c, ← q]; exact e⟩
          · by_cases q2 : y = evP es x + 1
            · exact Or.inl ⟨evP es x, by omega, by rw [arc_c1 c, ← q2]; exact e⟩
            · exact Or.inl ⟨y, by omega, by rw [arc_c0 c q q2]; exact e⟩
        · have f := e2 c
          by_cases q : y = evP es x
          · exact Or.inr ⟨x, by omega, hl, c, Or.inl (by rw [← q]; exact e)⟩
          · by_cases q2 : y = evP es x + 1
            · exact Or.inr ⟨x, by omega, hl, c, Or.inr (by rw [← q2]; exact e)⟩
            · by_cases q3 : y < evP es x
              · exact Or.inl ⟨y, by omega, by rw [arc_d0 c q3]; exact e⟩
              · exact Or.inl ⟨y - 2, by omega, by rw [arc_d1 c (by omega), Nat.sub_add_cancel (by omega)]; exact e⟩
      · exact Or.inr ⟨x', by omega, e⟩
    · by_cases c : evK es x = 0
      · rw [if_pos c] at hb
        have f := e0 c
        rcases (by omega : a = 2 * bth es x ∨ a = 2 * bth es x + 1) with q | q
        · exact Or.inl ⟨evP es x, by omega, by rw [arc_b1 c, q]⟩
        · exact Or.inl ⟨evP es x + 1, by omega, by rw [arc_b2 c, q]⟩
      · rw [if_neg c] at hb
        omega
/-- all arcs of a front -/
def nA (es : List Ev) : Nat := 2 * bth es es.length
theorem arc_ends {es : List Ev} (hw : whl es) {a : Nat} (ha : a < nA es) : ∃ x, ends es x a := by
  rcases arc_all hw.1 es.length a (Nat.le_refl _) ha with ⟨y, hy, -⟩ | ⟨x, -, h⟩
  · rw [aN_full, hw.2.2] at hy
    omega
  · exact ⟨x, h⟩
/-- the event that ends a, the arc that ends with it, whether a ends above -/
noncomputable def dE (es : List Ev) (a : Nat) : Nat := @dite _ (∃ x, ends es x a) (Classical.propDecidable _) (fun h => h.choose) (fun _ => 0)
theorem dE_eq {es : List Ev} (hv : vld es) {x a : Nat} (h : ends es x a) : dE es a = x := by
  unfold dE
  rw [dif_pos ⟨x, h⟩]
  exact ends_uniq hv (Exists.choose_spec (⟨x, h⟩ : ∃ x, ends es x a)) h
noncomputable def mt (es : List Ev) (a : Nat) : Nat := if arcF es (dE es a) (evP es (dE es a)) = a then arcF es (dE es a) (evP es (dE es a) + 1) else arcF es (dE es a) (evP es (dE es a))
noncomputable def ab (es : List Ev) (a : Nat) : Bool := decide (¬ arcF es (dE es a) (evP es (dE es a)) = a)
theorem mt_low {es : List Ev} (hv : vld es) {x : Nat} (h : x < es.length) (c : evK es x = 2) : mt es (arcF es x (evP es x)) = arcF es x (evP es x + 1) ∧ ab es (arcF es x (evP es x)) = false := by
  have e := dE_eq hv (x := x) (a := arcF es x (evP es x)) ⟨h, c, Or.inl rfl⟩
  unfold mt ab
  rw [e, if_pos rfl]
  exact ⟨rfl, by simp⟩
theorem mt_up {es : List Ev} (hv : vld es) {x : Nat} (h : x < es.length) (c : evK es x = 2) : mt es (arcF es x (evP es x + 1)) = arcF es x (evP es x) ∧ ab es (arcF es x (evP es x + 1)) = true := by
  have e := dE_eq hv (x := x) (a := arcF es x (evP es x + 1)) ⟨h, c, Or.inr rfl⟩
  have ho := (ev_ok hv h).2.2.2.2 c
  have hne : ¬ arcF es x (evP es x) = arcF es x (evP es x + 1) := fun z => by
    have := arc_inj hv x _ _ (by omega) (by omega) (by omega) z
    omega
  unfold mt ab
  rw [e, if_neg hne]
  exact ⟨rfl, by simp [hne]⟩
theorem mt_ok {es : List Ev} (hw : whl es) {a : Nat} (ha : a < nA es) : mt es a < nA es ∧ mt es (mt es a) = a ∧ mt es a ≠ a := by
  obtain ⟨x, h1, h2, h3⟩ := arc_ends hw ha
  have ho := (ev_ok hw.1 h1).2.2.2.2 h2
  have hb := bth_mono (es := es) x es.length (by omega) (Nat.le_refl _)
  have l1 := arc_lt hw.1 x (evP es x) (by omega) (by omega)
  have l2 := arc_lt hw.1 x (evP es x + 1) (by omega) (by omega)
  have hne : ¬ arcF es x (evP es x) = arcF es x (evP es x + 1) := fun z => by
    have := arc_inj hw.1 x _ _ (by omega) (by omega) (by omega) z
    omega
  unfold nA
  rcases h3 with h3 | h3
  · rw [← h3, (mt_low hw.1 h1 h2).1, (mt_up hw.1 h1 h2).1]
    exact ⟨by omega, rfl, fun z => hne z.symm⟩
  · rw [← h3, (mt_up hw.1 h1 h2).1, (mt_low hw.1 h1 h2).1]
    exact ⟨by omega, rfl, hne⟩
