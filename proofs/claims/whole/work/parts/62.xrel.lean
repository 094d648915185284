/-! the class's object: its cells behind it hold the state -/
def sgn8 (b : Nat) : Int32 := if b < 128 then nI b else zI ((b : Int) - 256)
def TapeC (h : mH) (G : mG) (T : Nat) (Bt : Nat → Int32) (n p k t x : Int32) : Prop := h T = some (.inr (4, [.ref (T + 1), .int n, .int p, .int k, .int t, .int x])) ∧ h (T + 1) = some (.inl (gC G 1, 120, .inl Bt))
def TapeR (h : mH) (G : mG) (T : Nat) (tp : List Nat) : Prop := ∃ Bt p k t x, TapeC h G T Bt (nI tp.length) p k t x ∧ ∀ i, i < tp.length → Bt i = sgn8 (tp.getD i 0)
def laneC (l : Int32) : Int32 := if l = -4 then -1 else l
def SheetR (h : mH) (G : mG) (s : Nat) (sh : Sh) : Prop := ∃ C : Nat → Int32, h s = some (.inr (2, [.ref (s + 1), .int (laneC sh.1), .int (nI sh.2.1)])) ∧ h (s + 1) = some (.inl (gC G 0, 62, .inl C)) ∧ ∀ i, i < 62 → C i = sh.2.2 i
def FA (h : mH) (G : mG) (F : Nat) : Prop := ∃ K P A n x, FrontC h G F K P A n x
theorem FR_A {h : mH} {G : mG} {F : Nat} {es : List Ev} (hF : FrontR h G F es) : FA h G F := by
  obtain ⟨_, K, P, A, hC, _⟩ := hF
  exact ⟨K, P, A, _, _, hC⟩
/-- the ways' object and rows: of which front, arcs' count, pieces, rows of arcs, rows 0 to 8 behind them -/
def WaysC (h : mH) (G : mG) (W wo : Nat) (ac pc : Int32) (R : Nat → Nat → Int32) (a : Nat → Nat → Int32) : Prop := h W = some (.inr (5, [.ref wo, .ref (W + 5), .ref (W + 37), .ref (W + 38), .ref (W + 39), .ref (W + 40), .ref (W + 41), .ref (W + 42), .int ac, .int pc, .ref (W + 43), .ref (W + 44), .ref (W + 45)])) ∧ h (W + 5) = some (.inl (gC G 3, 31, .inr (.inr (.inr (.inr (fun i => some (W + 6 + i))))))) ∧ (∀ i, i < 31 → h (W + 6 + i) = some (.inl (gC G 0, 10, .inl (R i)))) ∧ ∀ k, k < 9 → h (W + 37 + k) = some (.inl (gC G (if k = 2 ∨ k = 4 then 2 else 0), (if k < 6 then 30 else 15), .inl (a k)))
def WA (h : mH) (G : mG) (W : Nat) : Prop := ∃ wo ac pc R a, WaysC h G W wo ac pc R a
/-- the switching's object and rows -/
def SwC (h : mH) (G : mG) (Q qo : Nat) (one fnd fst : Int32) (R : Nat → Nat → Int32) (my fb : Nat → Int32) : Prop := h Q = some (.inr (3, [.ref qo, .ref (Q + 5), .ref (Q + 37), .ref (Q + 38), .int one, .int fnd, .int fst])) ∧ h (Q + 5) = some (.inl (gC G 3, 31, .inr (.inr (.inr (.inr (fun i => some (Q + 6 + i))))))) ∧ (∀ i, i < 31 → h (Q + 6 + i) = some (.inl (gC G 0, 10, .inl (R i)))) ∧ h (Q + 37) = some (.inl (gC G 2, 30, .inl my)) ∧ h (Q + 38) = some (.inl (gC G 0, 13, .inl fb))
def SA (h : mH) (G : mG) (Q : Nat) : Prop := ∃ qo one fnd fst R my fb, SwC h G Q qo one fnd fst R my fb
def xF (B f : Nat) : Nat := B + 105 + 4 * f
def xS (B k : Nat) : Nat := B + 97 + 2 * k
def xO (B : Nat) (c l : Int32) : List Value := [.ref (B + 1), .ref (B + 3), .ref (B + 4), .ref (B + 5), .ref (B + 9), .ref (B + 12), .ref (B + 58), .int c, .int l]
def XR (h : mH) (G : mG) (B : Nat) (S : AS) : Prop := h B = some (.inr (6, xO B (nI S.1.length) (nI S.2.2.1))) ∧ TapeR h G (B + 1) S.2.1 ∧ h (B + 3) = some (.inl (gC G 5, 4, .inr (.inr (.inr (.inr (fun k => some (xS B k))))))) ∧ h (B + 4) = some (.inl (gC G 4, 8, .inr (.inr (.inr (.inr (fun f => some (xF B f))))))) ∧ FA h G (B + 5) ∧ PA h G (B + 9) ∧ WA h G (B + 12) ∧ SA h G (B + 58) ∧ (∀ k, k < 4 → SheetR h G (xS B k) (S.2.2.2 k)) ∧ (∀ f, f < 8 → FA h G (xF B f)) ∧ ∀ f, f < S.1.length → FrontR h G (xF B f) (S.1.getD f [])
/-- the same from a to b -/
def eqO (h h' : mH) (a b : Nat) : Prop := ∀ q, a ≤ q → q ≤ b → h' q = h q
theorem eqO_of {h h' : mH} {a b c d : Nat} (hk : mKeep h h' a b) (hd : d < a ∨ b < c) : eqO h h' c d := fun q h1 h2 => hk q (by omega)
theorem FC_eq {h h' : mH} {G : mG} {F : Nat} {K P A : Nat → Int32} {n x : Int32} (e : eqO h h' F (F + 3)) (q : FrontC h G F K P A n x) : FrontC h' G F K P A n x := by
  obtain ⟨h0, h1, h2, h3⟩ := q
  exact ⟨by rw [e F (by omega) (by omega)]; exact h0, by rw [e (F + 1) (by omega) (by omega)]; exact h1, by rw [e (F + 2) (by omega) (by omega)]; exact h2, by rw [e (F + 3) (by omega) (by omega)]; exact h3⟩
theorem FR_eq {h h' : mH} {G : mG} {F : Nat} {es : List Ev} (e : eqO h h' F (F + 3)) (q : FrontR h G F es) : FrontR h' G F es := by
  obtain ⟨hv, K, P, A, hC, hKP, hA⟩ := q
  exact ⟨hv, K, P, A, FC_eq e hC, hKP, hA⟩
theorem FA_eq {h h' : mH} {G : mG} {F : Nat} (e : eqO h h' F (F + 3)) (q : FA h G F) : FA h' G F := by
  obtain ⟨K, P, A, n, x, hC⟩ := q
  exact ⟨K, P, A, n, x, FC_eq e hC⟩
theorem PA_eq {h h' : mH} {G : mG} {P : Nat} (e : eqO h h' P (P + 2)) (q : PA h G P) : PA h' G P := by
  obtain ⟨K, Q, n, g, h0, h1, h2⟩ := q
  exact ⟨K, Q, n, g, by rw [e P (by omega) (by omega)]; exact h0, by rw [e (P + 1) (by omega) (by omega)]; exact h1, by rw [e (P + 2) (by omega) (by omega)]; exact h2⟩
theorem TR_eq {h h' : mH} {G : mG} {T : Nat} {tp : List Nat} (e : eqO h h' T (T + 1)) (q : TapeR h G T tp) : TapeR h' G T tp := by
  obtain ⟨Bt, p, k, t, x, ⟨h0, h1⟩, h2⟩ := q
  exact ⟨Bt, p, k, t, x, ⟨by rw [e T (by omega) (by omega)]; exact h0, by rw [e (T + 1) (by omega) (by omega)]; exact h1⟩, h2⟩
theorem SR_eq {h h' : mH} {G : mG} {s : Nat} {sh : Sh} (e : eqO h h' s (s + 1)) (q : SheetR h G s sh) : SheetR h' G s sh := by
  obtain ⟨C, h0, h1, h2⟩ := q
  exact ⟨C, by rw [e s (by omega) (by omega)]; exact h0, by rw [e (s + 1) (by omega) (by omega)]; exact h1, h2⟩
theorem WA_eq {h h' : mH} {G : mG} {W : Nat} (e : eqO h h' W (W + 45)) (q : WA h G W) : WA h' G W := by
  obtain ⟨wo, ac, pc, R, a, h0, h1, h2, h3⟩ := q
  exact ⟨wo, ac, pc, R, a, by rw [e W (by omega) (by omega)]; exact h0, by rw [e (W + 5) (by omega) (by omega)]; exact h1, fun i hi => by rw [e (W + 6 + i) (by omega) (by omega)]; exact h2 i hi, fun k hk => by rw [e (W + 37 + k) (by omega) (by omega)]; exact h3 k hk⟩
theorem SA_eq {h h' : mH} {G : mG} {Q : Nat} (e : eqO h h' Q (Q + 38)) (q : SA h G Q) : SA h' G Q := by
  obtain ⟨qo, one, fnd, fst, R, my, fb, h0, h1, h2, h3, h4⟩ := q
  exact ⟨qo, one, fnd, fst, R, my, fb, by rw [e Q (by omega) (by omega)]; exact h0, by rw [e (Q + 5) (by omega) (by omega)]; exact h1, fun i hi => by rw [e (Q + 6 + i) (by omega) (by omega)]; exact h2 i hi, by rw [e (Q + 37) (by omega) (by omega)]; exact h3, by rw [e (Q + 38) (by omega) (by omega)]; exact h4⟩
section XRS
variable {h h' : mH} {G : mG} {B : Nat} {S : AS}

theorem XR_draft (hX : XR h G B S) (hk : mKeep h h' (B + 5) (B + 8)) (q : FA h' G (B + 5)) : XR h' G B S := by
  exact ⟨by rw [hk B (by omega)]; exact hX.1, TR_eq (eqO_of hk (by omega)) hX.2.1, by rw [hk (B + 3) (by omega)]; exact hX.2.2.1, by rw [hk (B + 4) (by omega)]; exact hX.2.2.2.1, q, PA_eq (eqO_of hk (by omega)) hX.2.2.2.2.2.1, WA_eq (eqO_of hk (by omega)) hX.2.2.2.2.2.2.1, SA_eq (eqO_of hk (by omega)) hX.2.2.2.2.2.2.2.1, fun k hk4 => SR_eq (eqO_of hk (by unfold xS; omega)) (hX.2.2.2.2.2.2.2.2.1 k hk4), fun f hf => FA_eq (eqO_of hk (by unfold xF; omega)) (hX.2.2.2.2.2.2.2.2.2.1 f hf), fun f hf => FR_eq (eqO_of hk (by unfold xF; omega)) (hX.2.2.2.2.2.2.2.2.2.2 f hf)⟩
theorem XR_patch (hX : XR h G B S) (hk : mKeep h h' (B + 9) (B + 11)) (q : PA h' G (B + 9)) : XR h' G B S := by
  exact ⟨by rw [hk B (by omega)]; exact hX.1, TR_eq (eqO_of hk (by omega)) hX.2.1, by rw [hk (B + 3) (by omega)]; exact hX.2.2.1, by rw [hk (B + 4) (by omega)]; exact hX.2.2.2.1, FA_eq (eqO_of hk (by omega)) hX.2.2.2.2.1, q, WA_eq (eqO_of hk (by omega)) hX.2.2.2.2.2.2.1, SA_eq (eqO_of hk (by omega)) hX.2.2.2.2.2.2.2.1, fun k hk4 => SR_eq (eqO_of hk (by unfold xS; omega)) (hX.2.2.2.2.2.2.2.2.1 k hk4), fun f hf => FA_eq (eqO_of hk (by unfold xF; omega)) (hX.2.2.2.2.2.2.2.2.2.1 f hf), fun f hf => FR_eq (eqO_of hk (by unfold xF; omega)) (hX.2.2.2.2.2.2.2.2.2.2 f hf)⟩
theorem XR_ways (hX : XR h G B S) (hk : mKeep h h' (B + 12) (B + 57)) (q : WA h' G (B + 12)) : XR h' G B S := by
  exact ⟨by rw [hk B (by omega)]; exact hX.1, TR_eq (eqO_of hk (by omega)) hX.2.1, by rw [hk (B + 3) (by omega)]; exact hX.2.2.1, by rw [hk (B + 4) (by omega)]; exact hX.2.2.2.1, FA_eq (eqO_of hk (by omega)) hX.2.2.2.2.1, PA_eq (eqO_of hk (by omega)) hX.2.2.2.2.2.1, q, SA_eq (eqO_of hk (by omega)) hX.2.2.2.2.2.2.2.1, fun k hk4 => SR_eq (eqO_of hk (by unfold xS; omega)) (hX.2.2.2.2.2.2.2.2.1 k hk4), fun f hf => FA_eq (eqO_of hk (by unfold xF; omega)) (hX.2.2.2.2.2.2.2.2.2.1 f hf), fun f hf => FR_eq (eqO_of hk (by unfold xF; omega)) (hX.2.2.2.2.2.2.2.2.2.2 f hf)⟩
theorem XR_sw (hX : XR h G B S) (hk : mKeep h h' (B + 58) (B + 96)) (q : SA h' G (B + 58)) : XR h' G B S := by
  exact ⟨by rw [hk B (by omega)]; exact hX.1, TR_eq (eqO_of hk (by omega)) hX.2.1, by rw [hk (B + 3) (by omega)]; exact hX.2.2.1, by rw [hk (B + 4) (by omega)]; exact hX.2.2.2.1, FA_eq (eqO_of hk (by omega)) hX.2.2.2.2.1, PA_eq (eqO_of hk (by omega)) hX.2.2.2.2.2.1, WA_eq (eqO_of hk (by omega)) hX.2.2.2.2.2.2.1, q, fun k hk4 => SR_eq (eqO_of hk (by unfold xS; omega)) (hX.2.2.2.2.2.2.2.2.1 k hk4), fun f hf => FA_eq (eqO_of hk (by unfold xF; omega)) (hX.2.2.2.2.2.2.2.2.2.1 f hf), fun f hf => FR_eq (eqO_of hk (by unfold xF; omega)) (hX.2.2.2.2.2.2.2.2.2.2 f hf)⟩
theorem XR_tape (hX : XR h G B S) (hk : mKeep h h' (B + 1) (B + 2)) {tp : List Nat} (q : TapeR h' G (B + 1) tp) : XR h' G B (S.1, tp, S.2.2) := by
  exact ⟨by rw [hk B (by omega)]; exact hX.1, q, by rw [hk (B + 3) (by omega)]; exact hX.2.2.1, by rw [hk (B + 4) (by omega)]; exact hX.2.2.2.1, FA_eq (eqO_of hk (by omega)) hX.2.2.2.2.1, PA_eq (eqO_of hk (by omega)) hX.2.2.2.2.2.1, WA_eq (eqO_of hk (by omega)) hX.2.2.2.2.2.2.1, SA_eq (eqO_of hk (by omega)) hX.2.2.2.2.2.2.2.1, fun k hk4 => SR_eq (eqO_of hk (by unfold xS; omega)) (hX.2.2.2.2.2.2.2.2.1 k hk4), fun f hf => FA_eq (eqO_of hk (by unfold xF; omega)) (hX.2.2.2.2.2.2.2.2.2.1 f hf), fun f hf => FR_eq (eqO_of hk (by unfold xF; omega)) (hX.2.2.2.2.2.2.2.2.2.2 f hf)⟩
theorem XR_fault {l : Nat} (hX : XR h G B S) (hk : mKeep h h' B B) (q : h' B = some (.inr (6, xO B (nI S.1.length) (nI l)))) : XR h' G B (S.1, S.2.1, l, S.2.2.2) := by
  exact ⟨q, TR_eq (eqO_of hk (by omega)) hX.2.1, by rw [hk (B + 3) (by omega)]; exact hX.2.2.1, by rw [hk (B + 4) (by omega)]; exact hX.2.2.2.1, FA_eq (eqO_of hk (by omega)) hX.2.2.2.2.1, PA_eq (eqO_of hk (by omega)) hX.2.2.2.2.2.1, WA_eq (eqO_of hk (by omega)) hX.2.2.2.2.2.2.1, SA_eq (eqO_of hk (by omega)) hX.2.2.2.2.2.2.2.1, fun k hk4 => SR_eq (eqO_of hk (by unfold xS; omega)) (hX.2.2.2.2.2.2.2.2.1 k hk4), fun f hf => FA_eq (eqO_of hk (by unfold xF; omega)) (hX.2.2.2.2.2.2.2.2.2.1 f hf), fun f hf => FR_eq (eqO_of hk (by unfold xF; omega)) (hX.2.2.2.2.2.2.2.2.2.2 f hf)⟩
theorem XR_less {n : Nat} (hX : XR h G B S) (hn : n ≤ S.1.length) (hk : mKeep h h' B B) (q : h' B = some (.inr (6, xO B (nI n) (nI S.2.2.1)))) : XR h' G B (S.1.take n, S.2) := by
  have hl : (S.1.take n).length = n := by rw [List.length_take]; omega
  refine ⟨by show h' B = some (.inr (6, xO B (nI (S.1.take n).length) (nI S.2.2.1))); rw [hl]; exact q, TR_eq (eqO_of hk (by omega)) hX.2.1, by rw [hk (B + 3) (by omega)]; exact hX.2.2.1, by rw [hk (B + 4) (by omega)]; exact hX.2.2.2.1, FA_eq (eqO_of hk (by omega)) hX.2.2.2.2.1, PA_eq (eqO_of hk (by omega)) hX.2.2.2.2.2.1, WA_eq (eqO_of hk (by omega)) hX.2.2.2.2.2.2.1, SA_eq (eqO_of hk (by omega)) hX.2.2.2.2.2.2.2.1, fun k hk4 => SR_eq (eqO_of hk (by unfold xS; omega)) (hX.2.2.2.2.2.2.2.2.1 k hk4), fun f hf => FA_eq (eqO_of hk (by unfold xF; omega)) (hX.2.2.2.2.2.2.2.2.2.1 f hf), fun f hf => ?_⟩
  have hf' : f < n := by rw [← hl]; exact hf
  show FrontR h' G (xF B f) ((S.1.take n).getD f [])
  rw [getD_set_l (x := []) hf' hn]
  exact FR_eq (eqO_of hk (by unfold xF; omega)) (hX.2.2.2.2.2.2.2.2.2.2 f (by omega))
theorem XR_more {es : List Ev} (hX : XR h G B S) (hk : mKeep h h' B B) (q : h' B = some (.inr (6, xO B (nI (S.1.length + 1)) (nI S.2.2.1)))) (hF : FrontR h G (xF B S.1.length) es) : XR h' G B (S.1 ++ [es], S.2) := by
  refine ⟨by show h' B = some (.inr (6, xO B (nI (S.1 ++ [es]).length) (nI S.2.2.1))); rw [List.length_append, List.length_singleton]; exact q, TR_eq (eqO_of hk (by omega)) hX.2.1, by rw [hk (B + 3) (by omega)]; exact hX.2.2.1, by rw [hk (B + 4) (by omega)]; exact hX.2.2.2.1, FA_eq (eqO_of hk (by omega)) hX.2.2.2.2.1, PA_eq (eqO_of hk (by omega)) hX.2.2.2.2.2.1, WA_eq (eqO_of hk (by omega)) hX.2.2.2.2.2.2.1, SA_eq (eqO_of hk (by omega)) hX.2.2.2.2.2.2.2.1, fun k hk4 => SR_eq (eqO_of hk (by unfold xS; omega)) (hX.2.2.2.2.2.2.2.2.1 k hk4), fun f hf => FA_eq (eqO_of hk (by unfold xF; omega)) (hX.2.2.2.2.2.2.2.2.2.1 f hf), fun f hf => ?_⟩
  have hf' : f < S.1.length + 1 := by simpa using hf
  show FrontR h' G (xF B f) ((S.1 ++ [es]).getD f [])
  by_cases c : f = S.1.length
  · subst c
    rw [getD_app_e]
    exact FR_eq (eqO_of hk (by unfold xF; omega)) hF
  · rw [getD_app_l (by omega)]
    exact FR_eq (eqO_of hk (by unfold xF; omega)) (hX.2.2.2.2.2.2.2.2.2.2 f (by omega))
theorem XR_free {g : Nat} (hX : XR h G B S) (hg : S.1.length ≤ g) (hg8 : g < 8) (hk : mKeep h h' (xF B g) (xF B g + 3)) (q : FA h' G (xF B g)) : XR h' G B S := by
  unfold xF at hk
  refine ⟨by rw [hk B (by omega)]; exact hX.1, TR_eq (eqO_of hk (by omega)) hX.2.1, by rw [hk (B + 3) (by omega)]; exact hX.2.2.1, by rw [hk (B + 4) (by omega)]; exact hX.2.2.2.1, FA_eq (eqO_of hk (by omega)) hX.2.2.2.2.1, PA_eq (eqO_of hk (by omega)) hX.2.2.2.2.2.1, WA_eq (eqO_of hk (by omega)) hX.2.2.2.2.2.2.1, SA_eq (eqO_of hk (by omega)) hX.2.2.2.2.2.2.2.1, fun k hk4 => SR_eq (eqO_of hk (by unfold xS; omega)) (hX.2.2.2.2.2.2.2.2.1 k hk4), fun f hf => ?_, fun f hf => FR_eq (eqO_of hk (by unfold xF; omega)) (hX.2.2.2.2.2.2.2.2.2.2 f hf)⟩
  by_cases c : f = g
  · subst c
    exact q
  · exact FA_eq (eqO_of hk (by unfold xF; omega)) (hX.2.2.2.2.2.2.2.2.2.1 f hf)
theorem XR_slot {g : Nat} {es : List Ev} (hX : XR h G B S) (hg : g < S.1.length) (hk : mKeep h h' (xF B g) (xF B g + 3)) (q : FrontR h' G (xF B g) es) : XR h' G B (S.1.set g es, S.2) := by
  unfold xF at hk
  refine ⟨by show h' B = some (.inr (6, xO B (nI (S.1.set g es).length) (nI S.2.2.1))); rw [List.length_set, hk B (by omega)]; exact hX.1, TR_eq (eqO_of hk (by omega)) hX.2.1, by rw [hk (B + 3) (by omega)]; exact hX.2.2.1, by rw [hk (B + 4) (by omega)]; exact hX.2.2.2.1, FA_eq (eqO_of hk (by omega)) hX.2.2.2.2.1, PA_eq (eqO_of hk (by omega)) hX.2.2.2.2.2.1, WA_eq (eqO_of hk (by omega)) hX.2.2.2.2.2.2.1, SA_eq (eqO_of hk (by omega)) hX.2.2.2.2.2.2.2.1, fun k hk4 => SR_eq (eqO_of hk (by unfold xS; omega)) (hX.2.2.2.2.2.2.2.2.1 k hk4), fun f hf => ?_, fun f hf => ?_⟩
  · by_cases c : f = g
    · subst c
      exact FR_A q
    · exact FA_eq (eqO_of hk (by unfold xF; omega)) (hX.2.2.2.2.2.2.2.2.2.1 f hf)
  · have hf' : f < S.1.length := by simpa using hf
    show FrontR h' G (xF B f) ((S.1.set g es).getD f [])
    rw [getD_set hg]
    by_cases c : f = g
    · subst c
      rw [if_pos rfl]
      exact q
    · rw [if_neg c]
      exact FR_eq (eqO_of hk (by unfold xF; omega)) (hX.2.2.2.2.2.2.2.2.2.2 f hf')
theorem XR_sheet {k : Nat} {sh : Sh} (hX : XR h G B S) (hk4 : k < 4) (hk : mKeep h h' (xS B k) (xS B k + 1)) (q : SheetR h' G (xS B k) sh) : XR h' G B (S.1, S.2.1, S.2.2.1, fun j => if j = k then sh else S.2.2.2 j) := by
  unfold xS at hk
  refine ⟨by rw [hk B (by omega)]; exact hX.1, TR_eq (eqO_of hk (by omega)) hX.2.1, by rw [hk (B + 3) (by omega)]; exact hX.2.2.1, by rw [hk (B + 4) (by omega)]; exact hX.2.2.2.1, FA_eq (eqO_of hk (by omega)) hX.2.2.2.2.1, PA_eq (eqO_of hk (by omega)) hX.2.2.2.2.2.1, WA_eq (eqO_of hk (by omega)) hX.2.2.2.2.2.2.1, SA_eq (eqO_of hk (by omega)) hX.2.2.2.2.2.2.2.1, fun j hj => ?_, fun f hf => FA_eq (eqO_of hk (by unfold xF; omega)) (hX.2.2.2.2.2.2.2.2.2.1 f hf), fun f hf => FR_eq (eqO_of hk (by unfold xF; omega)) (hX.2.2.2.2.2.2.2.2.2.2 f hf)⟩
  show SheetR h' G (xS B j) (if j = k then sh else S.2.2.2 j)
  by_cases c : j = k
  · subst c
    rw [if_pos rfl]
    exact q
  · rw [if_neg c]
    exact SR_eq (eqO_of hk (by unfold xS; omega)) (hX.2.2.2.2.2.2.2.2.1 j hj)
end XRS
