/-! locals -/
def ent (L : mL) : List (Nat × Value) := (List.range L.length).filterMap (fun i => (L.getD i none).map (fun v => (i, v)))
theorem getD_some {L : mL} {i : Nat} {v : Value} : L.getD i none = some v ↔ L[i]? = some (some v) := by
  rw [List.getD_eq_getElem?_getD]
  cases h : L[i]? with
  | none => simp
  | some o => simp
theorem ent_mem {L : mL} {i : Nat} {v : Value} : (i, v) ∈ ent L ↔ L[i]? = some (some v) := by
  unfold ent
  rw [List.mem_filterMap]
  constructor
  · rintro ⟨a, -, h2⟩
    cases ha : L.getD a none with
    | none => rw [ha] at h2; cases h2
    | some w =>
      rw [ha] at h2
      simp only [Option.map_some, Option.some.injEq, Prod.mk.injEq] at h2
      obtain ⟨rfl, rfl⟩ := h2
      exact getD_some.mp ha
  · intro h
    exact ⟨i, List.mem_range.mpr (List.getElem?_eq_some_iff.mp h).1, by rw [getD_some.mpr h]; rfl⟩
theorem mloc_has {ls : Array Slot} {n : Nat} {L : mL} (h : mLoc ls n L) : lv_has ls n (ent L) := ⟨h.1, h.2.2.1, fun q hq => h.2.2.2 q.1 q.2 (ent_mem.mp hq)⟩
theorem mloc_st1 {ls : Array Slot} {n i : Nat} {L : mL} {v : Value} (hl : L.length = n) (hok : mOk1 L i) (h : lv_has ls n ((i, v) :: (ent L).filter (fun q => !(q.1 == i) && !(q.1 + 1 == i && q.2.category == 2)))) : mLoc ls n (L.set i (some v)) := by
  refine ⟨h.1, by simp [hl], h.2.1, fun j w hj => ?_⟩
  by_cases c : j = i
  · subst c
    have hlt : j < L.length := by
      have := (List.getElem?_eq_some_iff.mp hj).1
      simpa using this
    rw [List.getElem?_set_self hlt] at hj
    cases hj
    exact h.2.2 (j, v) List.mem_cons_self
  · rw [List.getElem?_set_ne (fun e => c e.symm)] at hj
    refine h.2.2 (j, w) (List.mem_cons_of_mem _ (List.mem_filter.mpr ⟨ent_mem.mpr hj, ?_⟩))
    have h2 : ¬ (j + 1 = i ∧ w.category = 2) := by
      rintro ⟨rfl, h2⟩
      unfold mOk1 at hok
      simp only [hj] at hok
      omega
    simp only [Bool.and_eq_true, Bool.not_eq_true', Bool.and_eq_false_iff, beq_eq_false_iff_ne, ne_eq]
    refine ⟨c, ?_⟩
    by_cases e : j + 1 = i
    · exact Or.inr (fun z => h2 ⟨e, z⟩)
    · exact Or.inl e
theorem mloc_st2 {ls : Array Slot} {n i : Nat} {L : mL} {v : Value} (hl : L.length = n) (hok : mOk1 L i) (h : lv_has ls n ((i, v) :: (ent L).filter (fun q => !(q.1 == i) && (!(q.1 == i + 1) && !(q.1 + 1 == i && q.2.category == 2))))) : mLoc ls n ((L.set (i + 1) none).set i (some v)) := by
  refine ⟨h.1, by simp [hl], h.2.1, fun j w hj => ?_⟩
  by_cases c : j = i
  · subst c
    have hlt : j < (L.set (j + 1) none).length := by
      have := (List.getElem?_eq_some_iff.mp hj).1
      simpa using this
    rw [List.getElem?_set_self hlt] at hj
    cases hj
    exact h.2.2 (j, v) List.mem_cons_self
  · rw [List.getElem?_set_ne (fun e => c e.symm)] at hj
    by_cases c1 : j = i + 1
    · subst c1
      have hlt : i + 1 < L.length := by
        have := (List.getElem?_eq_some_iff.mp hj).1
        simpa using this
      rw [List.getElem?_set_self hlt] at hj
      cases hj
    · rw [List.getElem?_set_ne (fun e => c1 e.symm)] at hj
      refine h.2.2 (j, w) (List.mem_cons_of_mem _ (List.mem_filter.mpr ⟨ent_mem.mpr hj, ?_⟩))
      have h2 : ¬ (j + 1 = i ∧ w.category = 2) := by
        rintro ⟨rfl, h2⟩
        unfold mOk1 at hok
        simp only [hj] at hok
        omega
      simp only [Bool.and_eq_true, Bool.not_eq_true', Bool.and_eq_false_iff, beq_eq_false_iff_ne, ne_eq]
      refine ⟨c, c1, ?_⟩
      by_cases e : j + 1 = i
      · exact Or.inr (fun z => h2 ⟨e, z⟩)
      · exact Or.inl e
