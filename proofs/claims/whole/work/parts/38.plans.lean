/-! what moves, add and push put in the place of what -/
theorem crs_nil : crs [] = 0 := rfl
def subA (m e : Nat) : Nat := if e = 0 then m - 2 else if e = 2 then m + 2 else m
abbrev nb (p q : Nat) : Prop := q = p + 1 ∨ p = q + 1
abbrev k3 (es : List Ev) (i a b c : Nat) : Prop := i + 2 < es.length ∧ evK es i = a ∧ evK es (i + 1) = b ∧ evK es (i + 2) = c ∧ evP es (i + 2) = evP es i ∧ nb (evP es i) (evP es (i + 1))
def mvP (es : List Ev) (kind i : Nat) : Option (Nat × List Ev) :=
  if kind = 0 then
    (if i + 1 < es.length then
      (if evP es i + (if evK es i = 2 then 0 else 2) ≤ evP es (i + 1) then some (2, [(evK es (i + 1), subA (evP es (i + 1)) (evK es i)), (evK es i, evP es i)])
      else if evP es (i + 1) + (if evK es (i + 1) = 0 then 0 else 2) ≤ evP es i then some (2, [(evK es (i + 1), evP es (i + 1)), (evK es i, stp (evP es i) (evK es (i + 1)))])
      else none)
    else none)
  else if kind = 1 then (if k3 es i 1 1 1 then some (3, [(1, evP es (i + 1)), (1, evP es i), (1, evP es (i + 1))]) else none)
  else if kind = 2 then (if k3 es i 0 1 2 then some (3, []) else none)
  else if kind = 3 then (if k3 es i 0 1 1 then some (3, [(0, evP es (i + 1))]) else if k3 es i 1 1 2 then some (3, [(2, evP es (i + 1))]) else none)
  else (if i + 1 < es.length ∧ evK es i = 0 ∧ evK es (i + 1) = 2 ∧ nb (evP es i) (evP es (i + 1)) then some (2, []) else none)
def adP (kind k : Nat) : List Ev := if kind = 0 then [(0, k + 1), (1, k), (2, k + 1)] else if kind = 1 then [(0, k), (1, k + 1), (2, k)] else if kind = 2 then [(0, k + 1), (2, k)] else [(0, k), (2, k + 1)]
def psP (es : List Ev) (kind i : Nat) : Option (Nat × List Ev) :=
  if evK es i = 0 then (if kind = 0 then (if 1 ≤ evP es i then some (1, [(0, evP es i - 1), (1, evP es i), (1, evP es i - 1)]) else none) else (if evP es i < ahL (es.take i) then some (1, [(0, evP es i + 1), (1, evP es i), (1, evP es i + 1)]) else none))
  else if evK es i = 2 then (if kind = 0 then (if 1 ≤ evP es i then some (1, [(1, evP es i - 1), (1, evP es i), (2, evP es i - 1)]) else none) else (if evP es i + 2 < ahL (es.take i) then some (1, [(1, evP es i + 1), (1, evP es i), (2, evP es i + 1)]) else none))
  else none
/-- the plan is good: as many strands behind it, and it can be judged by itself -/
def gdP (es : List Ev) (i g : Nat) (ps : List Ev) : Prop := i + g ≤ es.length ∧ aS (ahL (es.take i)) ps = aS (ahL (es.take i)) ((es.drop i).take g) ∧ (ps = [] → 1 ≤ ahL (es.take i))
theorem swap_ok {es : List Ev} (hv : vld es) {i g : Nat} {ps : List Ev} (h : mvP es 0 i = some (g, ps)) : gdP es i g ps ∧ (vld (repl es i g ps) ↔ (evK es (i + 1) = 0 → ahL (es.take i) + 2 ≤ 10)) := by
  unfold mvP at h
  rw [if_pos rfl] at h
  by_cases c : i + 1 < es.length
  case neg => rw [if_neg c] at h; cases h
  rw [if_pos c] at h
  have b := vld_bd hv
  obtain ⟨m1, m2⟩ := mid_ok hv i 2
  have lc : ∀ ps, ps.length = 2 → (repl es i 2 ps).length = es.length := fun ps hl => by have := repl_len (ps := ps) (show i + 2 ≤ es.length by omega); omega
  have cc : ∀ ps, crs (repl es i 2 ps) + crs ((es.drop i).take 2) = crs es + crs ps := fun ps => repl_crs
  have s1 := (vld_sm hv (i := i) (by omega)).1
  have s2 := (vld_sm hv (i := i + 1) (by omega)).1
  have vr := fun ps ha => vld_repl hv (i := i) (g := 2) (ps := ps) ha
  rw [dt2 c] at m1 cc vr
  unfold gdP
  by_cases c1 : evP es i + (if evK es i = 2 then 0 else 2) ≤ evP es (i + 1)
  · rw [if_pos c1] at h
    obtain ⟨rfl, rfl⟩ := Prod.mk.inj (Option.some.inj h)
    rw [dt2 c]
    have ha : aS (ahL (es.take i)) [(evK es (i + 1), subA (evP es (i + 1)) (evK es i)), (evK es i, evP es i)] = aS (ahL (es.take i)) [(evK es i, evP es i), (evK es (i + 1), evP es (i + 1))] := by
      simp only [sS, aS, List.foldl_cons, List.foldl_nil, stp] at m1 ⊢
      rcases (by omega : evK es i = 0 ∨ evK es i = 1 ∨ evK es i = 2) with e | e | e <;> rcases (by omega : evK es (i + 1) = 0 ∨ evK es (i + 1) = 1 ∨ evK es (i + 1) = 2) with e' | e' | e' <;> simp [e, e'] at m1 c1 ⊢ <;> omega
    refine ⟨⟨by omega, ha, fun z => by cases z⟩, ?_⟩
    rw [vr _ ha, lc _ rfl]
    have := cc [(evK es (i + 1), subA (evP es (i + 1)) (evK es i)), (evK es i, evP es i)]
    have e3 : crs [(evK es (i + 1), subA (evP es (i + 1)) (evK es i)), (evK es i, evP es i)] = crs [(evK es i, evP es i), (evK es (i + 1), evP es (i + 1))] := by
      simp only [crs_cons, crs_nil]
      omega
    have e4 : crs (repl es i 2 [(evK es (i + 1), subA (evP es (i + 1)) (evK es i)), (evK es i, evP es i)]) ≤ 12 := by omega
    simp only [b.1, e4, and_true]
    simp only [sS, stp, subA] at m1 ⊢
    rcases (by omega : evK es i = 0 ∨ evK es i = 1 ∨ evK es i = 2) with e | e | e <;> rcases (by omega : evK es (i + 1) = 0 ∨ evK es (i + 1) = 1 ∨ evK es (i + 1) = 2) with e' | e' | e' <;> simp [e, e'] at m1 c1 ⊢ <;> omega
  · rw [if_neg c1] at h
    by_cases c2 : evP es (i + 1) + (if evK es (i + 1) = 0 then 0 else 2) ≤ evP es i
    case neg => rw [if_neg c2] at h; cases h
    rw [if_pos c2] at h
    obtain ⟨rfl, rfl⟩ := Prod.mk.inj (Option.some.inj h)
    rw [dt2 c]
    have ha : aS (ahL (es.take i)) [(evK es (i + 1), evP es (i + 1)), (evK es i, stp (evP es i) (evK es (i + 1)))] = aS (ahL (es.take i)) [(evK es i, evP es i), (evK es (i + 1), evP es (i + 1))] := by
      simp only [sS, aS, List.foldl_cons, List.foldl_nil, stp] at m1 ⊢
      rcases (by omega : evK es i = 0 ∨ evK es i = 1 ∨ evK es i = 2) with e | e | e <;> rcases (by omega : evK es (i + 1) = 0 ∨ evK es (i + 1) = 1 ∨ evK es (i + 1) = 2) with e' | e' | e' <;> simp [e, e'] at m1 c2 ⊢ <;> omega
    refine ⟨⟨by omega, ha, fun z => by cases z⟩, ?_⟩
    rw [vr _ ha, lc _ rfl]
    have := cc [(evK es (i + 1), evP es (i + 1)), (evK es i, stp (evP es i) (evK es (i + 1)))]
    have e3 : crs [(evK es (i + 1), evP es (i + 1)), (evK es i, stp (evP es i) (evK es (i + 1)))] = crs [(evK es i, evP es i), (evK es (i + 1), evP es (i + 1))] := by
      simp only [crs_cons, crs_nil]
      omega
    have e4 : crs (repl es i 2 [(evK es (i + 1), evP es (i + 1)), (evK es i, stp (evP es i) (evK es (i + 1)))]) ≤ 12 := by omega
    simp only [b.1, e4, and_true]
    simp only [sS, stp] at m1 ⊢
    rcases (by omega : evK es i = 0 ∨ evK es i = 1 ∨ evK es i = 2) with e | e | e <;> rcases (by omega : evK es (i + 1) = 0 ∨ evK es (i + 1) = 1 ∨ evK es (i + 1) = 2) with e' | e' | e' <;> simp [e, e'] at m1 c2 ⊢ <;> omega
theorem k3_ok {es : List Ev} (hv : vld es) {i a b c : Nat} (h : k3 es i a b c) {ps : List Ev} (hl : ps.length ≤ 3) (hc : crs ps ≤ (if a = 1 then 1 else 0) + (if b = 1 then 1 else 0) + (if c = 1 then 1 else 0))
    (h1 : ∀ A p q, nb p q → sS A [(a, p), (b, q), (c, p)] → aS A ps = aS A [(a, p), (b, q), (c, p)] ∧ (ps = [] → 1 ≤ A)) (h2 : ∀ A p q, p = evP es i → q = evP es (i + 1) → nb p q → A ≤ 10 → sS A [(a, p), (b, q), (c, p)] → sS A ps) : gdP es i 3 ps ∧ vld (repl es i 3 ps) := by
  obtain ⟨g1, g2, g3, g4, g5, g6⟩ := h
  have bd := vld_bd hv
  obtain ⟨m1, m2⟩ := mid_ok hv i 3
  have cc := repl_crs (es := es) (i := i) (g := 3) (ps := ps)
  have ll := repl_len (es := es) (i := i) (g := 3) (ps := ps) (by omega)
  have vr := vld_repl hv (i := i) (g := 3) (ps := ps)
  unfold gdP
  rw [dt3 g1, g2, g3, g4, g5] at m1 cc vr ⊢
  obtain ⟨q1, q2⟩ := h1 _ _ _ g6 m1
  refine ⟨⟨by omega, q1, q2⟩, (vr q1).mpr ⟨h2 _ _ _ rfl rfl g6 m2 m1, by omega, ?_⟩⟩
  have e : crs [(a, evP es i), (b, evP es (i + 1)), (c, evP es i)] = (if a = 1 then 1 else 0) + (if b = 1 then 1 else 0) + (if c = 1 then 1 else 0) := by
    simp only [crs_cons, crs_nil]
    omega
  omega
theorem move_ok {es : List Ev} (hv : vld es) {kind i g : Nat} {ps : List Ev} (hk : kind ≠ 0) (h : mvP es kind i = some (g, ps)) : gdP es i g ps ∧ vld (repl es i g ps) := by
  unfold mvP at h
  rw [if_neg hk] at h
  by_cases k1 : kind = 1
  · rw [if_pos k1] at h
    by_cases c : k3 es i 1 1 1
    case neg => rw [if_neg c] at h; cases h
    rw [if_pos c] at h
    obtain ⟨rfl, rfl⟩ := Prod.mk.inj (Option.some.inj h)
    refine k3_ok hv c (Nat.le_of_ble_eq_true rfl) (by simp [crs_cons, crs_nil]) (fun A p q hn hs => ⟨rfl, fun z => by cases z⟩) (fun A p q e1 e2 hn hA hs => ?_)
    rw [← e1, ← e2]
    simp only [sS, stp] at hs ⊢
    simp at hs ⊢
    omega
  rw [if_neg k1] at h
  by_cases k2 : kind = 2
  · rw [if_pos k2] at h
    by_cases c : k3 es i 0 1 2
    case neg => rw [if_neg c] at h; cases h
    rw [if_pos c] at h
    obtain ⟨rfl, rfl⟩ := Prod.mk.inj (Option.some.inj h)
    refine k3_ok hv c (Nat.le_of_ble_eq_true rfl) (by simp [crs]) (fun A p q hn hs => ?_) (fun A p q e1 e2 hn hA hs => trivial)
    simp only [sS, stp, aS, List.foldl_cons, List.foldl_nil] at hs ⊢
    simp at hs ⊢
    omega
  rw [if_neg k2] at h
  by_cases k3' : kind = 3
  · rw [if_pos k3'] at h
    by_cases c : k3 es i 0 1 1
    · rw [if_pos c] at h
      obtain ⟨rfl, rfl⟩ := Prod.mk.inj (Option.some.inj h)
      refine k3_ok hv c (Nat.le_of_ble_eq_true rfl) (by simp [crs_cons, crs_nil]) (fun A p q hn hs => ⟨rfl, fun z => by cases z⟩) (fun A p q e1 e2 hn hA hs => ?_)
      rw [← e2]
      simp only [sS, stp] at hs ⊢
      simp at hs ⊢
      omega
    rw [if_neg c] at h
    by_cases c : k3 es i 1 1 2
    case neg => rw [if_neg c] at h; cases h
    rw [if_pos c] at h
    obtain ⟨rfl, rfl⟩ := Prod.mk.inj (Option.some.inj h)
    refine k3_ok hv c (Nat.le_of_ble_eq_true rfl) (by simp [crs_cons, crs_nil]) (fun A p q hn hs => ⟨rfl, fun z => by cases z⟩) (fun A p q e1 e2 hn hA hs => ?_)
    rw [← e2]
    simp only [sS, stp] at hs ⊢
    simp at hs ⊢
    omega
  rw [if_neg k3'] at h
  by_cases c : i + 1 < es.length ∧ evK es i = 0 ∧ evK es (i + 1) = 2 ∧ nb (evP es i) (evP es (i + 1))
  case neg => rw [if_neg c] at h; cases h
  rw [if_pos c] at h
  obtain ⟨rfl, rfl⟩ := Prod.mk.inj (Option.some.inj h)
  obtain ⟨g1, g2, g3, g4⟩ := c
  have bd := vld_bd hv
  obtain ⟨m1, m2⟩ := mid_ok hv i 2
  have cc := repl_crs (es := es) (i := i) (g := 2) (ps := [])
  have ll := repl_len (es := es) (i := i) (g := 2) (ps := []) (by omega)
  have vr := vld_repl hv (i := i) (g := 2) (ps := [])
  unfold gdP
  rw [dt2 g1, g2, g3] at m1 cc vr ⊢
  rw [List.length_nil] at ll
  rw [show crs [] = 0 from rfl] at cc
  have key : aS (ahL (es.take i)) [] = aS (ahL (es.take i)) [(0, evP es i), (2, evP es (i + 1))] := by
    simp only [sS, stp, aS, List.foldl_cons, List.foldl_nil] at m1 ⊢
    simp at m1 ⊢
  refine ⟨⟨by omega, key, fun _ => ?_⟩, (vr key).mpr ⟨trivial, by omega, by omega⟩⟩
  simp only [sS, stp] at m1
  simp at m1
  omega
theorem add_ok {es : List Ev} (hv : vld es) {kind i k : Nat} (hi : i ≤ es.length) (hk : k < ahL (es.take i)) : gdP es i 0 (adP kind k) ∧ (vld (repl es i 0 (adP kind k)) ↔ ¬ (30 < es.length + (if kind < 2 then 3 else 2) ∨ (kind < 2 ∧ crs es = 12) ∨ 10 < ahL (es.take i) + 2)) := by
  have bd := vld_bd hv
  obtain ⟨-, m2⟩ := mid_ok hv i 0
  have cc := repl_crs (es := es) (i := i) (g := 0) (ps := adP kind k)
  have ll := repl_len (es := es) (i := i) (g := 0) (ps := adP kind k) (by omega)
  have vr := vld_repl hv (i := i) (g := 0) (ps := adP kind k)
  unfold gdP
  rw [List.take_zero] at cc vr ⊢
  rw [show crs [] = 0 from rfl] at cc
  have key : aS (ahL (es.take i)) (adP kind k) = aS (ahL (es.take i)) [] := by
    unfold adP
    split
    · rfl
    split
    · rfl
    split <;> rfl
  refine ⟨⟨by omega, key, fun _ => by omega⟩, ?_⟩
  rw [vr key]
  unfold adP at cc ll ⊢
  by_cases k0 : kind = 0
  · simp only [k0, ↓reduceIte] at cc ll ⊢
    simp only [crs_cons, crs_nil, List.length_cons, List.length_nil] at cc ll
    simp only [sS, stp]
    simp at cc ll ⊢
    omega
  by_cases k1 : kind = 1
  · subst k1
    simp only [show ¬ (1 : Nat) = 0 by decide, ↓reduceIte] at cc ll ⊢
    simp only [crs_cons, crs_nil, List.length_cons, List.length_nil] at cc ll
    simp only [sS, stp]
    simp at cc ll ⊢
    omega
  have k12 : ¬ kind < 2 := by omega
  by_cases k2 : kind = 2
  · subst k2
    simp only [show ¬ (2 : Nat) = 0 by decide, show ¬ (2 : Nat) = 1 by decide, ↓reduceIte] at cc ll ⊢
    simp only [crs_cons, crs_nil, List.length_cons, List.length_nil] at cc ll
    simp only [sS, stp]
    simp at cc ll ⊢
    omega
  · simp only [k2, k1, k0, k12, ↓reduceIte] at cc ll ⊢
    simp only [crs_cons, crs_nil, List.length_cons, List.length_nil] at cc ll
    simp only [sS, stp]
    simp at cc ll ⊢
    omega
theorem push_ok {es : List Ev} (hv : vld es) {kind i g : Nat} {ps : List Ev} (hi : i < es.length) (h : psP es kind i = some (g, ps)) : gdP es i g ps ∧ g = 1 ∧ ps.length = 3 ∧ (vld (repl es i g ps) ↔ ¬ (30 < es.length + 2 ∨ 12 < crs es + 2)) := by
  have bd := vld_bd hv
  obtain ⟨m1, m2⟩ := mid_ok hv i 1
  have main : ∀ ps : List Ev, ps.length = 3 → crs ps = 2 → aS (ahL (es.take i)) ps = aS (ahL (es.take i)) [(evK es i, evP es i)] → sS (ahL (es.take i)) ps → (evK es i ≠ 1) → gdP es i 1 ps ∧ (1 : Nat) = 1 ∧ ps.length = 3 ∧ (vld (repl es i 1 ps) ↔ ¬ (30 < es.length + 2 ∨ 12 < crs es + 2)) := by
    intro ps l1 l2 l3 l4 l5
    have cc := repl_crs (es := es) (i := i) (g := 1) (ps := ps)
    have ll := repl_len (es := es) (i := i) (g := 1) (ps := ps) (by omega)
    have vr := vld_repl hv (i := i) (g := 1) (ps := ps)
    unfold gdP
    rw [dt1 hi] at cc vr ⊢
    have e : crs [(evK es i, evP es i)] = 0 := by simp [crs_cons, crs_nil, l5]
    refine ⟨⟨by omega, l3, fun z => by rw [z] at l1; cases l1⟩, rfl, l1, ?_⟩
    rw [vr l3]
    refine ⟨fun z => by omega, fun z => ⟨l4, by omega, by omega⟩⟩
  rw [dt1 hi] at m1
  unfold psP at h
  by_cases e0 : evK es i = 0
  · rw [if_pos e0] at h
    rw [e0] at main m1
    simp only [sS, stp] at m1
    simp at m1
    by_cases k0 : kind = 0
    · rw [if_pos k0] at h
      by_cases c : 1 ≤ evP es i
      case neg => rw [if_neg c] at h; cases h
      rw [if_pos c] at h
      obtain ⟨rfl, rfl⟩ := Prod.mk.inj (Option.some.inj h)
      refine main _ rfl (by simp [crs_cons, crs_nil]) rfl ?_ (by decide)
      simp only [sS, stp]
      simp
      omega
    · rw [if_neg k0] at h
      by_cases c : evP es i < ahL (es.take i)
      case neg => rw [if_neg c] at h; cases h
      rw [if_pos c] at h
      obtain ⟨rfl, rfl⟩ := Prod.mk.inj (Option.some.inj h)
      refine main _ rfl (by simp [crs_cons, crs_nil]) rfl ?_ (by decide)
      simp only [sS, stp]
      simp
      omega
  rw [if_neg e0] at h
  by_cases e2 : evK es i = 2
  case neg => rw [if_neg e2] at h; cases h
  rw [if_pos e2] at h
  rw [e2] at main m1
  simp only [sS, stp] at m1
  simp at m1
  by_cases k0 : kind = 0
  · rw [if_pos k0] at h
    by_cases c : 1 ≤ evP es i
    case neg => rw [if_neg c] at h; cases h
    rw [if_pos c] at h
    obtain ⟨rfl, rfl⟩ := Prod.mk.inj (Option.some.inj h)
    refine main _ rfl (by simp [crs_cons, crs_nil]) rfl ?_ (by decide)
    simp only [sS, stp]
    simp
    omega
  · rw [if_neg k0] at h
    by_cases c : evP es i + 2 < ahL (es.take i)
    case neg => rw [if_neg c] at h; cases h
    rw [if_pos c] at h
    obtain ⟨rfl, rfl⟩ := Prod.mk.inj (Option.some.inj h)
    refine main _ rfl (by simp [crs_cons, crs_nil]) rfl ?_ (by decide)
    simp only [sS, stp]
    simp
    omega
/-- the front that a good plan makes is a front -/
theorem repl_whl {es : List Ev} (hw : whl es) {i g : Nat} {ps : List Ev} (hg : gdP es i g ps) (hv : vld (repl es i g ps)) : whl (repl es i g ps) := by
  refine ⟨hv, fun z => ?_, by rw [repl_ah hg.2.1]; exact hw.2.2⟩
  unfold repl at z
  simp only [List.append_eq_nil_iff] at z
  have := hg.2.2 z.1.2
  rw [z.1.1] at this
  exact absurd this (by decide)
