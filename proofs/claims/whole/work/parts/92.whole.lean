/-! the law from its entry -/
set_option maxRecDepth 100000 in
theorem ovW : Cond.arrayOver (.array .int) ∈ lw_tbl ∧ Cond.arrayOver (.object "CornerFronts$Front") ∈ lw_tbl ∧ Cond.arrayOver (.object "CornerFronts$Sheet") ∈ lw_tbl ∧ Cond.stringRef "CornerFronts$Tape" 68 "bxd" ∈ lw_tbl ∧ Cond.laysStatic "java/lang/String" "COMPACT_STRINGS" "Z" ∈ lw_tbl ∧ Cond.initialized "java/lang/String" ∈ lw_tbl := by decide +kernel
theorem cl_inst : ∀ (ci : Nat) (q : vw_C), vwCl[ci]? = some q → Cond.instantiable q.1 q.2.2 ∈ lw_tbl
  | 0, _, h => by cases h; exact nwW.1.1
  | 1, _, h => by cases h; exact nwW.2.1.1
  | 2, _, h => by cases h; exact nwW.2.2.1.1
  | 3, _, h => by cases h; exact nwW.2.2.2.1.1
  | 4, _, h => by cases h; exact nwW.2.2.2.2.1.1
  | 5, _, h => by cases h; exact nwW.2.2.2.2.2.1.1
  | 6, _, h => by cases h; exact nwW.2.2.2.2.2.2.1.1
  | 7, _, h => by cases h; exact nwW.2.2.2.2.2.2.2.1
  | n + 8, _, h => by cases h
theorem arr_of {s : State} {cA comp : ClassId} {kA : Class} {ty : FieldType} (h1 : s.vm.classes[cA]? = some kA) (h2 : kA.kind = .array comp ty) : ArrOfT s cA ty := fun n z => ⟨(fun k h => by cases h), kA, h1, comp, h2⟩
theorem w_world {s : State} {b : Nat} (l : Launch) (hts : ∀ w ∈ lw_tbl, w.before #[Value.ref b] s = true) (hgv : (Jvm.Cond.and given_1 narrow_1).before #[Value.ref b] s = true) : ∃ G : mG, G.1 = l ∧ gB G = s.heap.size ∧ va_K (gD G) vwCl (gT G) s ∧ gS G s s.heap := by
  have h8 : ∀ c : Nat, ∃ q : ClassId × (Nat → Nat), ∀ r : vw_C, vwCl[c]? = some r → u_Kn s r.1 r.2.1 r.2.2 q.1 q.2 := by
    intro c
    cases hc : vwCl[c]? with
    | none => exact ⟨(0, fun _ => 0), fun r h => by cases h⟩
    | some r =>
      obtain ⟨cC, iS, h⟩ := u_known hts (cl_facts c r hc).1 (hts _ (cl_inst c r hc))
      exact ⟨(cC, iS), fun r' h' => by cases h'; exact h⟩
  obtain ⟨D, hD⟩ := Classical.axiomOfChoice h8
  obtain ⟨c0, k0, m0, a1, a2, a3⟩ := Cond.arrayClass_spec (hts _ arrW.1)
  obtain ⟨c1, k1, m1, b1, b2, b3⟩ := Cond.arrayClass_spec (hts _ arrW.2.1)
  obtain ⟨c2, k2, m2, d1, d2, d3⟩ := Cond.arrayClass_spec (hts _ arrW.2.2)
  obtain ⟨m3, c3, k3, e1, -, e2, e3, e4⟩ := arrayOverA_spec (hts _ ovW.1)
  obtain ⟨m4, c4, k4, f1, -, f2, f3, f4⟩ := Cond.arrayOver_spec (hts _ ovW.2.1)
  obtain ⟨m5, c5, k5, g1, -, g2, g3, g4⟩ := Cond.arrayOver_spec (hts _ ovW.2.2.1)
  have hs := flat_of_before _ hgv
  have hA : ∀ a : Nat, a < s.heap.size → ¬ s.heap.size ≤ a := fun a h => by omega
  have one : ∀ i : Nat, i < 1 → i = 0 := fun i h => by omega
  obtain ⟨adK, adV, hS, hKe⟩ := vk_Sof (A := fun q => s.heap.size ≤ q) (args := #[Value.ref b]) (s := s) (N := 1) (tm := fun _ => Term.string "CornerFronts$Tape" 68) (len := [3]) (byt := [[98, 120, 100]])
    (fun i h => by rw [one i h]; decide)
    (fun i h => hs _ (by decide +kernel))
    (fun i h => hs _ (by decide +kernel))
    (fun i h => hs _ (by decide +kernel))
    (fun i h => by rw [one i h]; exact hs _ (by decide +kernel))
    (fun i h j hj => by
      rw [one i h] at hj ⊢
      have hj3 : j < 3 := hj
      rcases (by omega : j = 0 ∨ j = 1 ∨ j = 2) with rfl | rfl | rfl
      · exact hs _ (by decide +kernel)
      · exact hs _ (by decide +kernel)
      · exact hs _ (by decide +kernel))
    (fun i j h1 h2 n => absurd ((one i h1).trans (one j h2).symm) n) hA
  refine ⟨(l, (fun c => (D c).1, fun c => (D c).2), s.heap.size, fun k => if k = 0 then c0 else if k = 1 then c1 else if k = 2 then c2 else if k = 3 then c3 else if k = 4 then c4 else c5, adK, adV), rfl, rfl, ⟨fun c q hq => hD c q hq, fun k q hq => ?_⟩, fun w hw => ?_, hS, vk_R.of (hts _ ovW.2.2.2.1) (hKe 0 (by decide)), va_Zof (hts _ ovW.2.2.2.2.1) (hts _ ovW.2.2.2.2.2) (va_eqt (hs _ (by decide +kernel))) hA, va_AO.of (hts _ ovW.2.1), va_AO.of (hts _ ovW.2.2.1), ⟨m3, c3, k3, e1, e2, e3, e4⟩⟩
  · match k, hq with
    | 0, hq => cases hq; exact ⟨arr_of a2 a3, a1⟩
    | 1, hq => cases hq; exact ⟨arr_of b2 b3, b1⟩
    | 2, hq => cases hq; exact ⟨arr_of d2 d3, d1⟩
    | 3, hq => cases hq; exact ⟨arr_of e2 e3, e4⟩
    | 4, hq => cases hq; exact ⟨arr_of f2 f3, k4, m4, f2, f3, f1, f4⟩
    | 5, hq => cases hq; exact ⟨arr_of g2 g3, k5, m5, g2, g3, g1, g4⟩
    | n + 6, hq => cases hq
  · have h1 := List.mem_filter.mp hw
    have h6 := h1.2
    refine va_Nw.of ?_ (hts w h1.1)
    unfold isNest at h6
    split at h6
    · rfl
    · rfl
    · cases h6
/-- YOUR PART: from the entry, for every script of at most 2560 ints, the law comes to its end with true -/
theorem whole_start {p : Program} {e : Env} {s : State} {m : MethodId} {below : List Frame} {meth : Method} {c : Code} (l : Launch) {b L : Nat} {xs : Nat → Int32} (hL : L ≤ 2560) (C0 : lw_At p s m meth c b L xs) : W p l e room_1 s m #[Value.ref b] below meth c s.heap [] 0 0 (lw_Z below #[Value.ref b] s) (entryFrame m ([Value.ref b] : List Value).toArray 4) := by
  obtain ⟨hx, hb, hr, hml, hown, hts, hX, hbl, hlk, hgv⟩ := C0
  obtain ⟨G, rfl, hB, hK, hgS⟩ := w_world l hts hgv
  have hl := lv_entry [Value.ref b] (n := 4) (Nat.le_of_ble_eq_true rfl)
  rw [lg_entry_eq]
  generalize (lg_sl [Value.ref b] ++ List.replicate (4 - (lg_sl [Value.ref b]).length) Slot.unset).toArray = ls at hl ⊢
  have K := L_begin (G := G) (b := b) (Ln := L) (xs := xs) (B := s.heap.size) hL hB (h := fun _ => none)
  refine K p e s m #[Value.ref b] below meth c ⟨hx, hb, hr, hml, hown, fun w hw => hts w (List.mem_filter.mp hw).1, hlk, hK, hgS, Nat.le_of_eq hB, fun z => absurd z (by decide)⟩ ⟨rfl, hX, hbl, hB.symm⟩ s.heap [] ls ⟨rfl, Nat.le_refl _, Nat.zero_le _, Nat.zero_le _⟩ (fun x e h => by cases h) va_S.rf ?_
  refine ⟨hl.1, rfl, hl.2.1, fun i v hi => ?_⟩
  have h1 : (mEnt [Value.ref b])[i]? = some (some v) := by
    match i, hi with
    | 0, hi => exact hi
    | 1, hi => cases hi
    | 2, hi => cases hi
    | 3, hi => cases hi
    | n + 4, hi => cases hi
  have := hl.2.2 _ (mEnt_mem [Value.ref b] 0 i v h1)
  simpa using this
