/-! the ways along the arcs, as marks on them -/
def rgt (es : List Ev) (x y : Nat) : Nat := if evK es x = 0 then (if evP es x ≤ y then y + 2 else y) else if evK es x = 1 then (if y = evP es x then evP es x + 1 else if y = evP es x + 1 then evP es x else y) else (if evP es x + 1 < y then y - 2 else y)
def lft (es : List Ev) (x y : Nat) : Nat := if evK es x = 0 then (if evP es x + 1 < y then y - 2 else y) else if evK es x = 1 then (if y = evP es x then evP es x + 1 else if y = evP es x + 1 then evP es x else y) else (if evP es x ≤ y then y + 2 else y)
theorem rgt_arc {es : List Ev} (hv : vld es) {x y : Nat} (h : x < es.length) (hy : y < aN es x) (hc : ¬ (evK es x = 2 ∧ (y = evP es x ∨ y = evP es x + 1))) : arcF es (x + 1) (rgt es x y) = arcF es x y ∧ rgt es x y < aN es (x + 1) := by
  obtain ⟨k2, a10, e0, e1, e2⟩ := ev_ok hv h
  unfold rgt
  rcases (by omega : evK es x = 0 ∨ evK es x = 1 ∨ evK es x = 2) with c | c | c
  · have f := e0 c
    rw [if_pos c]
    by_cases q : evP es x ≤ y
    · rw [if_pos q, arc_b3 c (by omega), Nat.add_sub_cancel]
      exact ⟨rfl, by omega⟩
    · rw [if_neg q, arc_b0 c (by omega)]
      exact ⟨rfl, by omega⟩
  · have f := e1 c
    rw [if_neg (by omega), if_pos c]
    by_cases q : y = evP es x
    · rw [if_pos q, arc_c2 c, q]
      exact ⟨rfl, by omega⟩
    · rw [if_neg q]
      by_cases q2 : y = evP es x + 1
      · rw [if_pos q2, arc_c1 c, q2]
        exact ⟨rfl, by omega⟩
      · rw [if_neg q2, arc_c0 c q q2]
        exact ⟨rfl, by omega⟩
  · have f := e2 c
    rw [if_neg (by omega), if_neg (by omega)]
    by_cases q : evP es x + 1 < y
    · rw [if_pos q, arc_d1 c (by omega), Nat.sub_add_cancel (by omega)]
      exact ⟨rfl, by omega⟩
    · rw [if_neg q, arc_d0 c (by omega)]
      exact ⟨rfl, by omega⟩
theorem lft_arc {es : List Ev} (hv : vld es) {x y : Nat} (h : x < es.length) (hy : y < aN es (x + 1)) (hc : ¬ (evK es x = 0 ∧ (y = evP es x ∨ y = evP es x + 1))) : arcF es x (lft es x y) = arcF es (x + 1) y ∧ lft es x y < aN es x := by
  obtain ⟨k2, a10, e0, e1, e2⟩ := ev_ok hv h
  unfold lft
  rcases (by omega : evK es x = 0 ∨ evK es x = 1 ∨ evK es x = 2) with c | c | c
  · have f := e0 c
    rw [if_pos c]
    by_cases q : evP es x + 1 < y
    · rw [if_pos q, arc_b3 c q]
      exact ⟨rfl, by omega⟩
    · rw [if_neg q, arc_b0 c (by omega)]
      exact ⟨rfl, by omega⟩
  · have f := e1 c
    rw [if_neg (by omega), if_pos c]
    by_cases q : y = evP es x
    · rw [if_pos q, q, arc_c1 c]
      exact ⟨rfl, by omega⟩
    · rw [if_neg q]
      by_cases q2 : y = evP es x + 1
      · rw [if_pos q2, q2, arc_c2 c]
        exact ⟨rfl, by omega⟩
      · rw [if_neg q2, arc_c0 c q q2]
        exact ⟨rfl, by omega⟩
  · have f := e2 c
    rw [if_neg (by omega), if_neg (by omega)]
    by_cases q : evP es x ≤ y
    · rw [if_pos q, arc_d1 c q]
      exact ⟨rfl, by omega⟩
    · rw [if_neg q, arc_d0 c (by omega)]
      exact ⟨rfl, by omega⟩
/-- piece, whether to the right, level -/
abbrev Mk : Type := Nat × Bool × Int
abbrev VM : Type := Nat → Option Mk
def vset (V : VM) (a : Nat) (m : Mk) : VM := fun b => if b = a then some m else V b
/-- the other arc of the same birth -/
def par (a : Nat) : Nat := if a % 2 = 0 then a + 1 else a - 1
theorem par_par (a : Nat) : par (par a) = a := by unfold par; split <;> split <;> omega
theorem par_ne (a : Nat) : par a ≠ a := by unfold par; split <;> omega
theorem par_lt {a n : Nat} (h : a < 2 * n) : par a < 2 * n := by unfold par; split <;> omega
def cnt (V : VM) (n : Nat) : Nat := (List.range n).countP (fun a => (V a).isSome)
theorem cnt_succ (V : VM) (n : Nat) : cnt V (n + 1) = cnt V n + (if (V n).isSome then 1 else 0) := by
  unfold cnt
  rw [List.range_succ, List.countP_append]
  by_cases c : (V n).isSome = true <;> simp [c]
theorem cnt_le (V : VM) (n : Nat) : cnt V n ≤ n := by
  unfold cnt
  have := List.countP_le_length (p := fun a => (V a).isSome) (l := List.range n)
  rw [List.length_range] at this
  exact this
theorem cnt_set {V : VM} {a : Nat} {m : Mk} : ∀ {n : Nat}, (a < n → V a = none → cnt (vset V a m) n = cnt V n + 1) ∧ (n ≤ a → cnt (vset V a m) n = cnt V n)
  | 0 => ⟨fun h => absurd h (Nat.not_lt_zero a), fun _ => rfl⟩
  | n + 1 => by
    obtain ⟨i1, i2⟩ := cnt_set (V := V) (a := a) (m := m) (n := n)
    refine ⟨fun h hn => ?_, fun h => ?_⟩
    · rw [cnt_succ, cnt_succ]
      by_cases c : a = n
      · subst c
        rw [i2 (Nat.le_refl _)]
        unfold vset
        rw [if_pos rfl, hn]
        rfl
      · have e : vset V a m n = V n := if_neg (fun z => c z.symm)
        rw [i1 (by omega) hn, e]
        omega
    · have e : vset V a m n = V n := if_neg (by omega)
      rw [cnt_succ, cnt_succ, i2 (by omega), e]
theorem cnt_full {V : VM} {n a : Nat} (h : a < n) (hn : V a = none) : cnt V n < n := by
  have h1 := (cnt_set (V := V) (a := a) (m := (0, true, 0)) (n := n)).1 h hn
  have h2 := cnt_le (vset V a (0, true, 0)) n
  omega
/-- one turn of the walk: to the right along cur, back along its mate -/
noncomputable def lv1 (es : List Ev) (cur : Nat) (l : Int) : Int := l + (if ab es cur = true then -1 else 1)
noncomputable def lv2 (es : List Ev) (cur : Nat) (l : Int) : Int := lv1 es cur l + (if mt es cur % 2 = 1 then -1 else 1)
noncomputable def v2 (es : List Ev) (q : Nat) (V : VM) (cur : Nat) (l : Int) : VM := vset (vset V cur (q, true, l)) (mt es cur) (q, false, lv1 es cur l)
noncomputable def wu (es : List Ev) (cur : Nat) : Nat := (if ab es cur = true then 0 else 1) + (if mt es cur % 2 = 1 then 0 else 1)
noncomputable def wd (es : List Ev) (cur : Nat) : Nat := (if ab es cur = true then 1 else 0) + (if mt es cur % 2 = 1 then 1 else 0)
noncomputable def wlk (es : List Ev) (q : Nat) : Nat → VM → Nat → Nat → Nat → Int → VM × Nat × Nat
  | 0, V, u, d, _, _ => (V, u, d)
  | k + 1, V, u, d, cur, l => if (V cur).isSome = true then (V, u, d) else wlk es q k (v2 es q V cur l) (u + wu es cur) (d + wd es cur) (par (mt es cur)) (lv2 es cur l)
/-- marks so far: all arcs of the front, with their mates; r0 the first arc, last the latest one -/
def WI (es : List Ev) (V : VM) (r0 last : Nat) : Prop := (∀ a, (V a).isSome = true → a < nA es ∧ (V (mt es a)).isSome = true ∧ (a ≠ r0 → a ≠ last → (V (par a)).isSome = true)) ∧ r0 < nA es ∧ last < nA es ∧ (V r0).isSome = true ∧ (V last).isSome = true
def CL (es : List Ev) (V : VM) : Prop := ∀ a, (V a).isSome = true → a < nA es ∧ (V (mt es a)).isSome = true ∧ (V (par a)).isSome = true
/-- the walk stands before arc cur -/
def WP (es : List Ev) (V : VM) (r0 cur : Nat) : Prop := cur < nA es ∧ ((CL es V ∧ cur = r0 ∧ V cur = none) ∨ ∃ last, WI es V r0 last ∧ cur = par last ∧ ((V cur).isSome = true ↔ cur = r0))
theorem v2_some {es : List Ev} {q : Nat} {V : VM} {cur : Nat} {l : Int} {a : Nat} : ((v2 es q V cur l) a).isSome = true ↔ (a = cur ∨ a = mt es cur ∨ (V a).isSome = true) := by
  unfold v2 vset
  by_cases c1 : a = mt es cur
  · rw [if_pos c1]
    simp [c1]
  · rw [if_neg c1]
    by_cases c2 : a = cur
    · rw [if_pos c2]
      simp [c2]
    · rw [if_neg c2]
      simp [c1, c2]
theorem WP_step {es : List Ev} (hw : whl es) {V : VM} {r0 cur q : Nat} {l : Int} (h : WP es V r0 cur) (hn : V cur = none) : WP es (v2 es q V cur l) r0 (par (mt es cur)) ∧ cnt (v2 es q V cur l) (nA es) = cnt V (nA es) + 2 ∧ V (mt es cur) = none := by
  obtain ⟨hc, h⟩ := h
  obtain ⟨m1, m2, m3⟩ := mt_ok hw hc
  have hns : ¬ (V cur).isSome = true := by rw [hn]; decide
  have hmn : ¬ (V (mt es cur)).isSome = true := by
    intro z
    rcases h with ⟨hC, -, -⟩ | ⟨last, hW, -, -⟩
    · have := (hC _ z).2.1
      rw [m2] at this
      exact hns this
    · have := (hW.1 _ z).2.1
      rw [m2] at this
      exact hns this
  have hmn' : V (mt es cur) = none := by
    cases e : V (mt es cur) with
    | none => rfl
    | some _ => rw [e] at hmn; exact absurd rfl hmn
  refine ⟨⟨par_lt m1, Or.inr ⟨mt es cur, ⟨fun a ha => ?_, ?_, m1, ?_, v2_some.mpr (Or.inr (Or.inl rfl))⟩, rfl, ?_⟩⟩, ?_, hmn'⟩
  · rw [v2_some] at ha
    refine ⟨?_, ?_, fun n1 n2 => ?_⟩
    · rcases ha with rfl | rfl | ha
      · exact hc
      · exact m1
      · rcases h with ⟨hC, -, -⟩ | ⟨last, hW, -, -⟩
        · exact (hC _ ha).1
        · exact (hW.1 _ ha).1
    · rw [v2_some]
      rcases ha with rfl | rfl | ha
      · exact Or.inr (Or.inl rfl)
      · exact Or.inl m2
      · rcases h with ⟨hC, -, -⟩ | ⟨last, hW, -, -⟩
        · exact Or.inr (Or.inr (hC _ ha).2.1)
        · exact Or.inr (Or.inr (hW.1 _ ha).2.1)
    · rw [v2_some]
      rcases ha with rfl | rfl | ha
      · rcases h with ⟨-, z, -⟩ | ⟨last, hW, z, -⟩
        · exact absurd z n1
        · rw [z, par_par]
          exact Or.inr (Or.inr hW.2.2.2.2)
      · exact absurd rfl n2
      · rcases h with ⟨hC, -, -⟩ | ⟨last, hW, z, -⟩
        · exact Or.inr (Or.inr (hC _ ha).2.2)
        · by_cases c : a = last
          · rw [c, ← z]
            exact Or.inl rfl
          · exact Or.inr (Or.inr ((hW.1 _ ha).2.2 n1 c))
  · rcases h with ⟨-, z, -⟩ | ⟨last, hW, -, -⟩
    · rw [← z]; exact hc
    · exact hW.2.1
  · rw [v2_some]
    rcases h with ⟨-, z, -⟩ | ⟨last, hW, -, -⟩
    · exact Or.inl z.symm
    · exact Or.inr (Or.inr hW.2.2.2.1)
  · rw [v2_some]
    constructor
    · intro z
      apply Classical.byContradiction
      intro ne
      rcases z with z | z | z
      · rcases h with ⟨-, e, -⟩ | ⟨last, hW, e, -⟩
        · exact ne (z.trans e)
        · have : mt es cur = last := by rw [← par_par (mt es cur), z, e, par_par]
          exact hmn (this ▸ hW.2.2.2.2)
      · exact par_ne _ z
      · rcases h with ⟨hC, -, -⟩ | ⟨last, hW, e, -⟩
        · have := (hC _ z).2.2
          rw [par_par] at this
          exact hmn this
        · by_cases c : par (mt es cur) = last
          · have : mt es cur = cur := by
              have h := congrArg par c
              rw [par_par] at h
              exact h.trans e.symm
            exact m3 this
          · have := (hW.1 _ z).2.2 ne c
            rw [par_par] at this
            exact hmn this
    · intro z
      rw [z]
      rcases h with ⟨-, e, -⟩ | ⟨last, hW, -, -⟩
      · exact Or.inl e.symm
      · exact Or.inr (Or.inr hW.2.2.2.1)
  · unfold v2
    have e1 : vset V cur (q, true, l) (mt es cur) = none := by
      unfold vset
      rw [if_neg m3]
      exact hmn'
    rw [(cnt_set (V := vset V cur (q, true, l)) (a := mt es cur) (n := nA es)).1 m1 e1, (cnt_set (V := V) (a := cur) (n := nA es)).1 hc hn]
/-- where the walk comes back all its marks are closed -/
theorem WP_end {es : List Ev} {V : VM} {r0 cur : Nat} (h : WP es V r0 cur) (hs : (V cur).isSome = true) : CL es V := by
  obtain ⟨hc, h⟩ := h
  rcases h with ⟨hC, -, -⟩ | ⟨last, hW, e, hi⟩
  · exact hC
  · have er := hi.mp hs
    intro a ha
    obtain ⟨h1, h2, h3⟩ := hW.1 a ha
    refine ⟨h1, h2, ?_⟩
    by_cases c1 : a = r0
    · rw [c1, ← er, e, par_par]
      exact hW.2.2.2.2
    · by_cases c2 : a = last
      · rw [c2, ← e]
        exact hs
      · exact h3 c1 c2
/-- the event of the j-th birth -/
def isB (es : List Ev) (x j : Nat) : Prop := x < es.length ∧ evK es x = 0 ∧ bth es x = j
theorem isB_uniq {es : List Ev} {x x' j : Nat} (h : isB es x j) (h' : isB es x' j) : x = x' := by
  have key : ∀ u w, isB es u j → isB es w j → ¬ u < w := by
    intro u w hu hw c
    have h1 := bth_succ (es := es) hu.1
    rw [if_pos hu.2.1] at h1
    have h2 := bth_mono (es := es) (u + 1) w (by omega) (Nat.le_of_lt hw.1)
    have h3 := hu.2.2
    have h4 := hw.2.2
    omega
  have h1 := key x x' h h'
  have h2 := key x' x h' h
  omega
noncomputable def bE (es : List Ev) (j : Nat) : Nat := @dite _ (∃ x, isB es x j) (Classical.propDecidable _) (fun h => h.choose) (fun _ => 0)
theorem bE_eq {es : List Ev} {x j : Nat} (h : isB es x j) : bE es j = x := by
  unfold bE
  rw [dif_pos ⟨x, h⟩]
  exact isB_uniq (Exists.choose_spec (⟨x, h⟩ : ∃ x, isB es x j)) h
def nset (f : Nat → Nat) (k x : Nat) : Nat → Nat := fun j => if j = k then x else f j
/-- marks, pieces, first births, ups, downs -/
abbrev TS : Type := VM × Nat × (Nat → Nat) × (Nat → Nat) × (Nat → Nat)
noncomputable def trc (es : List Ev) : Nat → TS
  | 0 => (fun _ => none, 0, fun _ => 0, fun _ => 0, fun _ => 0)
  | j + 1 => if ((trc es j).1 (2 * j + 1)).isSome = true then trc es j else ((wlk es (trc es j).2.1 16 (trc es j).1 0 0 (2 * j + 1) 0).1, (trc es j).2.1 + 1, nset (trc es j).2.2.1 (trc es j).2.1 (bE es j), nset (trc es j).2.2.2.1 (trc es j).2.1 (wlk es (trc es j).2.1 16 (trc es j).1 0 0 (2 * j + 1) 0).2.1, nset (trc es j).2.2.2.2 (trc es j).2.1 (wlk es (trc es j).2.1 16 (trc es j).1 0 0 (2 * j + 1) 0).2.2)
theorem bth_le {es : List Ev} (hw : whl es) : bth es es.length ≤ 15 := by
  have key : ∀ x, x ≤ es.length → 4 * bth es x ≤ 2 * x + aN es x := by
    intro x
    induction x with
    | zero => intro _; rw [bth_zero]; omega
    | succ x ih =>
      intro hx
      have h1 := ih (by omega)
      have hl : x < es.length := by omega
      have h2 := bth_succ (es := es) hl
      obtain ⟨k2, -, e0, e1, e2⟩ := ev_ok hw.1 hl
      rcases (by omega : evK es x = 0 ∨ evK es x = 1 ∨ evK es x = 2) with c | c | c
      · have := e0 c
        rw [if_pos c] at h2
        omega
      · have := e1 c
        rw [if_neg (by omega)] at h2
        omega
      · have := e2 c
        rw [if_neg (by omega)] at h2
        omega
  have h1 := key es.length (Nat.le_refl _)
  rw [aN_full, hw.2.2] at h1
  have h2 := (vld_bd hw.1).1
  omega
/-- what holds of the walk from one birth on -/
theorem wlk_ok {es : List Ev} (hw : whl es) {q r0 : Nat} : ∀ (k : Nat) (V : VM) (u d cur : Nat) (l : Int), WP es V r0 cur → nA es < cnt V (nA es) + 2 * k → CL es (wlk es q k V u d cur l).1 ∧ cnt V (nA es) ≤ cnt (wlk es q k V u d cur l).1 (nA es) ∧ (V cur = none → cnt V (nA es) + 2 ≤ cnt (wlk es q k V u d cur l).1 (nA es)) ∧ (∀ a, (V a).isSome = true → (wlk es q k V u d cur l).1 a = V a) ∧ ((wlk es q k V u d cur l).1 cur).isSome = true
  | 0, V, u, d, cur, l, h, hk => by
    have := cnt_le V (nA es)
    omega
  | k + 1, V, u, d, cur, l, h, hk => by
    unfold wlk
    by_cases c : (V cur).isSome = true
    · rw [if_pos c]
      exact ⟨WP_end h c, Nat.le_refl _, fun z => by rw [z] at c; exact absurd c (by decide), fun _ _ => rfl, c⟩
    · rw [if_neg c]
      have hn : V cur = none := by
        cases e : V cur with
        | none => rfl
        | some _ => rw [e] at c; exact absurd rfl c
      obtain ⟨s1, s2, s3⟩ := WP_step hw (q := q) (l := l) h hn
      obtain ⟨i1, i2, -, i4, i5⟩ := wlk_ok hw (q := q) k (v2 es q V cur l) (u + wu es cur) (d + wd es cur) (par (mt es cur)) (lv2 es cur l) s1 (by omega)
      refine ⟨i1, by omega, fun _ => by omega, fun a ha => ?_, ?_⟩
      · have e : v2 es q V cur l a = V a := by
          unfold v2 vset
          rw [if_neg (fun z => by rw [z, s3] at ha; exact absurd ha (by decide)), if_neg (fun z => by rw [z, hn] at ha; exact absurd ha (by decide))]
        rw [i4 a (by rw [e]; exact ha), e]
      · have hs : ((v2 es q V cur l) cur).isSome = true := v2_some.mpr (Or.inl rfl)
        rw [i4 cur hs]
        exact hs
theorem CL_WP {es : List Ev} {V : VM} {cur : Nat} (hC : CL es V) (hc : cur < nA es) (hn : V cur = none) : WP es V cur cur := ⟨hc, Or.inl ⟨hC, rfl, hn⟩⟩
/-- closed marks, few pieces, all arcs so far marked -/
theorem trc_ok {es : List Ev} (hw : whl es) : ∀ j, j ≤ bth es es.length → CL es (trc es j).1 ∧ 2 * (trc es j).2.1 ≤ cnt (trc es j).1 (nA es) ∧ ∀ a, a < 2 * j → ((trc es j).1 a).isSome = true
  | 0, _ => ⟨fun a ha => absurd ha (by show ¬ (none : Option Mk).isSome = true; decide), Nat.zero_le _, fun a ha => absurd ha (by omega)⟩
  | j + 1, hj => by
    obtain ⟨i1, i2, i3⟩ := trc_ok hw j (by omega)
    have hb := bth_le hw
    have hlt : 2 * j + 1 < nA es := by unfold nA; omega
    have pe : par (2 * j + 1) = 2 * j := by unfold par; rw [if_neg (by omega)]; omega
    unfold trc
    by_cases c : ((trc es j).1 (2 * j + 1)).isSome = true
    · rw [if_pos c]
      refine ⟨i1, i2, fun a ha => ?_⟩
      rcases (by omega : a < 2 * j ∨ a = 2 * j ∨ a = 2 * j + 1) with q | q | q
      · exact i3 a q
      · have := (i1 _ c).2.2
        rw [pe] at this
        rw [q]; exact this
      · rw [q]; exact c
    · rw [if_neg c]
      have hn : (trc es j).1 (2 * j + 1) = none := by
        cases e : (trc es j).1 (2 * j + 1) with
        | none => rfl
        | some _ => rw [e] at c; exact absurd rfl c
      obtain ⟨w1, w2, w3, w4, w5⟩ := wlk_ok hw (q := (trc es j).2.1) 16 (trc es j).1 0 0 (2 * j + 1) 0 (CL_WP i1 hlt hn) (by unfold nA; omega)
      refine ⟨w1, ?_, fun a ha => ?_⟩
      · have := w3 hn
        show 2 * ((trc es j).2.1 + 1) ≤ cnt (wlk es (trc es j).2.1 16 (trc es j).1 0 0 (2 * j + 1) 0).1 (nA es)
        omega
      · rcases (by omega : a < 2 * j ∨ a = 2 * j ∨ a = 2 * j + 1) with q | q | q
        · show ((wlk es (trc es j).2.1 16 (trc es j).1 0 0 (2 * j + 1) 0).1 a).isSome = true
          rw [w4 a (i3 a q)]
          exact i3 a q
        · have := (w1 _ w5).2.2
          rw [pe] at this
          rw [q]; exact this
        · rw [q]; exact w5
