/-! when a row of events is a front: strands apart from counts -/
def aS (a : Nat) (r : List Ev) : Nat := r.foldl (fun a e => stp a e.1) a
/-- strands alone: each event can stand -/
def sS : Nat → List Ev → Prop
  | _, [] => True
  | a, e :: r => (e.1 ≤ 2 ∧ (e.1 = 0 → a + 2 ≤ 10) ∧ (if e.1 = 0 then e.2 ≤ a else e.2 + 2 ≤ a)) ∧ sS (stp a e.1) r
theorem ahL_aS (es : List Ev) : ahL es = aS 0 es := rfl
theorem aS_app (a : Nat) (p q : List Ev) : aS a (p ++ q) = aS (aS a p) q := by simp [aS]
theorem aS_cons (a : Nat) (e : Ev) (q : List Ev) : aS a (e :: q) = aS (stp a e.1) q := rfl
theorem sS_app : ∀ (p q : List Ev) (a : Nat), sS a (p ++ q) ↔ sS a p ∧ sS (aS a p) q
  | [], q, a => by simp [sS, aS]
  | e :: p, q, a => by
    show (_ ∧ sS (stp a e.1) (p ++ q)) ↔ (_ ∧ sS (stp a e.1) p) ∧ sS (aS (stp a e.1) p) q
    rw [sS_app p q (stp a e.1)]
    exact ⟨fun z => ⟨⟨z.1, z.2.1⟩, z.2.2⟩, fun z => ⟨z.1.1, z.1.2, z.2⟩⟩
theorem crs_app (p q : List Ev) : crs (p ++ q) = crs p + crs q := by simp [crs, List.countP_append]
theorem crs_cons (e : Ev) (q : List Ev) : crs (e :: q) = (if e.1 = 1 then 1 else 0) + crs q := by
  unfold crs
  rw [List.countP_cons]
  by_cases c : e.1 = 1
  · simp [c]
    omega
  · simp [c]
theorem crs_le (q : List Ev) : crs q ≤ q.length := List.countP_le_length
theorem okEv_iff (es : List Ev) (k p : Nat) : okEv es k p ↔ (k ≤ 2 ∧ (k = 0 → ahL es + 2 ≤ 10) ∧ (if k = 0 then p ≤ ahL es else p + 2 ≤ ahL es)) ∧ es.length < 30 ∧ (k = 1 → crs es < 12) := by
  unfold okEv
  exact ⟨fun ⟨a, b, c, d, e⟩ => ⟨⟨a, d, e⟩, b, c⟩, fun ⟨⟨a, d, e⟩, b, c⟩ => ⟨a, b, c, d, e⟩⟩
theorem allOk_iff : ∀ (xs es : List Ev), es.length ≤ 30 → crs es ≤ 12 → (allOk es xs ↔ sS (ahL es) xs ∧ es.length + xs.length ≤ 30 ∧ crs es + crs xs ≤ 12)
  | [], es, h1, h2 => by
    show True ↔ True ∧ es.length + 0 ≤ 30 ∧ crs es + 0 ≤ 12
    simp [h1, h2]
  | x :: xs, es, h1, h2 => by
    show (okEv es x.1 x.2 ∧ allOk (es ++ [x]) xs) ↔ (_ ∧ sS (stp (ahL es) x.1) xs) ∧ _ ∧ _
    rw [okEv_iff, crs_cons, List.length_cons]
    constructor
    · rintro ⟨⟨o1, o2, o3⟩, o4⟩
      have hc : crs (es ++ [x]) = crs es + (if x.1 = 1 then 1 else 0) := crs_snoc es x
      have hl : (es ++ [x]).length = es.length + 1 := by simp
      have h3 : crs (es ++ [x]) ≤ 12 := by
        rw [hc]
        split
        · have := o3 (by assumption)
          omega
        · omega
      obtain ⟨i1, i2, i3⟩ := (allOk_iff xs (es ++ [x]) (by omega) h3).mp o4
      rw [ahL_snoc] at i1
      exact ⟨⟨o1, i1⟩, by omega, by omega⟩
    · rintro ⟨⟨o1, i1⟩, i2, i3⟩
      have hc : crs (es ++ [x]) = crs es + (if x.1 = 1 then 1 else 0) := crs_snoc es x
      have hl : (es ++ [x]).length = es.length + 1 := by simp
      refine ⟨⟨o1, by omega, fun z => ?_⟩, (allOk_iff xs (es ++ [x]) (by omega) (by omega)).mpr ⟨by rw [ahL_snoc]; exact i1, by omega, by omega⟩⟩
      rw [if_pos z] at i3
      omega
theorem vld_take {es : List Ev} (h : vld es) (i : Nat) : vld (es.take i) := by
  intro j hj
  rw [List.length_take] at hj
  have e1 : (es.take i).take j = es.take j := by rw [List.take_take]; congr 1; omega
  have e2 : (es.take i).getD j (0, 0) = es.getD j (0, 0) := by
    rw [List.getD_eq_getElem?_getD, List.getElem?_take, if_pos (by omega), ← List.getD_eq_getElem?_getD]
  rw [e1, e2]
  exact h j (by omega)
theorem vld_app {es : List Ev} : ∀ (xs : List Ev), vld (es ++ xs) ↔ vld es ∧ allOk es xs := by
  intro xs
  induction xs generalizing es with
  | nil => simp [allOk]
  | cons x xs ih =>
    have e : es ++ x :: xs = (es ++ [x]) ++ xs := by simp
    rw [e, ih]
    constructor
    · rintro ⟨h1, h2⟩
      have h3 : vld es := by
        have := vld_take h1 es.length
        rwa [List.take_left' rfl] at this
      have h4 := h1 es.length (by simp)
      rw [List.take_left' rfl, getD_snoc_r] at h4
      exact ⟨h3, h4, h2⟩
    · rintro ⟨h1, h2, h3⟩
      exact ⟨vld_snoc h1 h2, h3⟩
theorem vld_iff (es : List Ev) : vld es ↔ sS 0 es ∧ es.length ≤ 30 ∧ crs es ≤ 12 := by
  have h := vld_app (es := []) es
  rw [List.nil_append] at h
  rw [h, allOk_iff es [] (by decide) (by decide)]
  show vld [] ∧ _ ↔ _
  simp only [vld_nil, true_and, List.length_nil, Nat.zero_add]
  show sS 0 es ∧ _ ∧ crs [] + crs es ≤ 12 ↔ _
  rw [show crs [] = 0 from rfl, Nat.zero_add]
theorem sS_bd : ∀ (r : List Ev) (a : Nat), a ≤ 10 → sS a r → aS a r ≤ 10
  | [], a, h, _ => h
  | e :: r, a, h, h2 => by
    rw [aS_cons]
    refine sS_bd r _ ?_ h2.2
    obtain ⟨o1, o2, o3⟩ := h2.1
    unfold stp
    split
    · omega
    · split <;> omega
/-- a piece of a front put in the place of another -/
def repl (es : List Ev) (i g : Nat) (ps : List Ev) : List Ev := es.take i ++ ps ++ es.drop (i + g)
theorem spl (es : List Ev) (i g : Nat) : es = es.take i ++ ((es.drop i).take g ++ es.drop (i + g)) := by
  rw [← List.drop_drop, List.take_append_drop, List.take_append_drop]
theorem vld_repl {es : List Ev} (hv : vld es) {i g : Nat} {ps : List Ev} (ha : aS (ahL (es.take i)) ps = aS (ahL (es.take i)) ((es.drop i).take g)) :
    vld (repl es i g ps) ↔ sS (ahL (es.take i)) ps ∧ (repl es i g ps).length ≤ 30 ∧ crs (repl es i g ps) ≤ 12 := by
  rw [vld_iff]
  have h0 := ((vld_iff es).mp hv).1
  rw [spl es i g, sS_app, sS_app] at h0
  unfold repl
  rw [List.append_assoc, sS_app, sS_app]
  rw [ahL_aS] at ha ⊢
  constructor
  · rintro ⟨⟨_, h2, _⟩, h3⟩
    exact ⟨h2, h3⟩
  · rintro ⟨h2, h3⟩
    refine ⟨⟨h0.1, h2, ?_⟩, h3⟩
    rw [ha]
    exact h0.2.2
theorem repl_len {es : List Ev} {i g : Nat} {ps : List Ev} (h : i + g ≤ es.length) : (repl es i g ps).length + g = es.length + ps.length := by
  unfold repl
  rw [List.length_append, List.length_append, List.length_take, List.length_drop]
  omega
theorem repl_crs {es : List Ev} {i g : Nat} {ps : List Ev} : crs (repl es i g ps) + crs ((es.drop i).take g) = crs es + crs ps := by
  unfold repl
  rw [crs_app, crs_app]
  have := congrArg crs (spl es i g)
  rw [crs_app, crs_app] at this
  omega
theorem repl_ah {es : List Ev} {i g : Nat} {ps : List Ev} (ha : aS (ahL (es.take i)) ps = aS (ahL (es.take i)) ((es.drop i).take g)) : ahL (repl es i g ps) = ahL es := by
  unfold repl
  rw [ahL_aS, aS_app, aS_app]
  rw [ahL_aS] at ha
  rw [ha]
  have := congrArg (aS 0) (spl es i g)
  rw [aS_app, aS_app] at this
  exact this.symm
theorem dtS {es : List Ev} {i g : Nat} (h : i < es.length) : (es.drop i).take (g + 1) = (evK es i, evP es i) :: (es.drop (i + 1)).take g := by
  rw [List.drop_eq_getElem_cons h, List.take_succ_cons]
  congr 1
  unfold evK evP
  rw [List.getD_eq_getElem?_getD, List.getElem?_eq_getElem h]
  rfl
theorem dt1 {es : List Ev} {i : Nat} (h : i < es.length) : (es.drop i).take 1 = [(evK es i, evP es i)] := by
  rw [dtS h, List.take_zero]
theorem dt2 {es : List Ev} {i : Nat} (h : i + 1 < es.length) : (es.drop i).take 2 = [(evK es i, evP es i), (evK es (i + 1), evP es (i + 1))] := by
  rw [dtS (by omega), dt1 (by omega)]
theorem dt3 {es : List Ev} {i : Nat} (h : i + 2 < es.length) : (es.drop i).take 3 = [(evK es i, evP es i), (evK es (i + 1), evP es (i + 1)), (evK es (i + 2), evP es (i + 2))] := by
  rw [dtS (by omega), dt2 (by omega)]
/-- what holds of the events in the place, as they stand -/
theorem mid_ok {es : List Ev} (hv : vld es) (i g : Nat) : sS (ahL (es.take i)) ((es.drop i).take g) ∧ ahL (es.take i) ≤ 10 := by
  have h0 := ((vld_iff es).mp hv).1
  rw [spl es i g, sS_app, sS_app] at h0
  refine ⟨h0.2.1, ?_⟩
  rw [ahL_aS]
  exact sS_bd _ _ (by omega) h0.1
