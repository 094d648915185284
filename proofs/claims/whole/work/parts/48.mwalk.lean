/-! the model: goOne walks along arcs -/
def gAt (a : Nat → Nat → Int32) (i : Nat) (o : Option Mk) : Prop := match o with
  | none => a 10 i = -4
  | some m => a 10 i = nI m.1 ∧ a 11 i = (if m.2.1 = true then 1 else -1) ∧ a 12 i = zI m.2.2
/-- the marks at all places ahead of events -/
def GRf (es : List Ev) (W : Nat → Nat → Option Mk) (a : Nat → Nat → Int32) : Prop := ∀ x y, x ≤ es.length → y < aN es x → gAt a (10 * x + y) (W x y)
def WR (es : List Ev) (V : VM) (c : Nat) (m : Mk) (X x y : Nat) : Option Mk := if arcF es x y = c then (if x < X then some m else none) else V (arcF es x y)
def WL (es : List Ev) (V : VM) (c : Nat) (m : Mk) (X x y : Nat) : Option Mk := if arcF es x y = c then (if X < x then some m else none) else V (arcF es x y)
theorem gAt_mk3 {a : Nat → Nat → Int32} {i j q : Nat} {wy : Int32} {l : Int} {o : Option Mk} {r : Bool} (hw : wy = (if r = true then 1 else -1)) (h : j ≠ i → gAt a j o) : gAt (mk3 a i (nI q) wy (zI l)) j (if j = i then some (q, r, l) else o) := by
  have e10 : mk3 a i (nI q) wy (zI l) 10 = upd (a 10) i (nI q) := rfl
  have e11 : mk3 a i (nI q) wy (zI l) 11 = upd (a 11) i wy := rfl
  have e12 : mk3 a i (nI q) wy (zI l) 12 = upd (a 12) i (zI l) := rfl
  by_cases c : j = i
  · rw [if_pos c, c]
    show _ ∧ _ ∧ _
    rw [e10, e11, e12, pk_us, pk_us, pk_us]
    exact ⟨rfl, hw, rfl⟩
  · rw [if_neg c]
    have h := h c
    cases o with
    | none =>
      show mk3 a i (nI q) wy (zI l) 10 j = -4
      rw [e10, pk_un c]
      exact h
    | some m =>
      show _ ∧ _ ∧ _
      rw [e10, e11, e12, pk_un c, pk_un c, pk_un c]
      exact h
theorem aN_le {es : List Ev} (hw : whl es) {x y : Nat} (hx : x ≤ es.length) (hy : y < aN es x) : x < es.length ∧ y < 10 := by
  have hl : x < es.length := by
    rcases Nat.lt_or_ge x es.length with c | c
    · exact c
    · have : x = es.length := by omega
      rw [this, aN_full, hw.2.2] at hy
      omega
  have := (ev_ok hw.1 hl).2.1
  exact ⟨hl, by omega⟩
theorem GRf_right {es : List Ev} (hw : whl es) {V : VM} {c q x y : Nat} {l : Int} {a : Nat → Nat → Int32} (hx : x ≤ es.length) (hy : y < aN es x) (hc : arcF es x y = c) (h : GRf es (WR es V c (q, true, l) x) a) : GRf es (WR es V c (q, true, l) (x + 1)) (mk3 a (10 * x + y) (nI q) 1 (zI l)) := by
  intro x' y' hx' hy'
  have h1 := aN_le hw hx hy
  have h2 := aN_le hw hx' hy'
  have k := gAt_mk3 (a := a) (i := 10 * x + y) (j := 10 * x' + y') (q := q) (wy := 1) (l := l) (r := true) rfl (fun _ => h x' y' hx' hy')
  have e : WR es V c (q, true, l) (x + 1) x' y' = (if 10 * x' + y' = 10 * x + y then some (q, true, l) else WR es V c (q, true, l) x x' y') := by
    unfold WR
    by_cases c1 : 10 * x' + y' = 10 * x + y
    · have ex : x' = x := by omega
      have ey : y' = y := by omega
      rw [if_pos c1, ex, ey, if_pos hc, if_pos (by omega)]
    · rw [if_neg c1]
      by_cases c2 : arcF es x' y' = c
      · rw [if_pos c2, if_pos c2]
        by_cases c3 : x' = x
        · exfalso
          subst c3
          have := arc_inj hw.1 x' y' y hx' hy' hy (c2.trans hc.symm)
          omega
        · by_cases c4 : x' < x
          · rw [if_pos c4, if_pos (by omega)]
          · rw [if_neg c4, if_neg (by omega)]
      · rw [if_neg c2, if_neg c2]
  rw [e]
  exact k
theorem GRf_left {es : List Ev} (hw : whl es) {V : VM} {c q x y : Nat} {l : Int} {a : Nat → Nat → Int32} (hx : x + 1 ≤ es.length) (hy : y < aN es (x + 1)) (hc : arcF es (x + 1) y = c) (h : GRf es (WL es V c (q, false, l) (x + 1)) a) : GRf es (WL es V c (q, false, l) x) (mk3 a (10 * (x + 1) + y) (nI q) (-1) (zI l)) := by
  intro x' y' hx' hy'
  have h1 := aN_le hw hx hy
  have h2 := aN_le hw hx' hy'
  have k := gAt_mk3 (a := a) (i := 10 * (x + 1) + y) (j := 10 * x' + y') (q := q) (wy := -1) (l := l) (r := false) rfl (fun _ => h x' y' hx' hy')
  have e : WL es V c (q, false, l) x x' y' = (if 10 * x' + y' = 10 * (x + 1) + y then some (q, false, l) else WL es V c (q, false, l) (x + 1) x' y') := by
    unfold WL
    by_cases c1 : 10 * x' + y' = 10 * (x + 1) + y
    · have ex : x' = x + 1 := by omega
      have ey : y' = y := by omega
      rw [if_pos c1, ex, ey, if_pos hc, if_pos (by omega)]
    · rw [if_neg c1]
      by_cases c2 : arcF es x' y' = c
      · rw [if_pos c2, if_pos c2]
        by_cases c3 : x' = x + 1
        · exfalso
          subst c3
          have := arc_inj hw.1 (x + 1) y' y hx' hy' hy (c2.trans hc.symm)
          omega
        · by_cases c4 : x + 1 < x'
          · rw [if_pos c4, if_pos (by omega)]
          · rw [if_neg c4, if_neg (by omega)]
      · rw [if_neg c2, if_neg c2]
  rw [e]
  exact k
/-- the model's rows as the walk of piece q leaves them -/
def WS (a0 a : Nat → Nat → Int32) (q u e : Nat) : Prop := (∀ k, k ≤ 9 ∨ k = 13 ∨ 16 ≤ k → a k = a0 k) ∧ a 14 q = nI u ∧ a 15 q = nI e ∧ ∀ j, j ≠ q → a 14 j = a0 14 j ∧ a 15 j = a0 15 j
theorem WS_mk3 {a0 a : Nat → Nat → Int32} {q u e i : Nat} {p wy l : Int32} (h : WS a0 a q u e) : WS a0 (mk3 a i p wy l) q u e := by
  refine ⟨fun k hk => ?_, h.2.1, h.2.2.1, h.2.2.2⟩
  unfold mk3 aset
  rw [if_neg (by omega), if_neg (by omega), if_neg (by omega)]
  exact h.1 k hk
theorem WS_mk5 {a0 a : Nat → Nat → Int32} {q u e i j : Nat} (h : WS a0 a q u e) : WS a0 (mk5 a q (nI i) (nI j)) q (u + i) (e + j) := by
  have e14 : mk5 a q (nI i) (nI j) 14 = upd (a 14) q (a 14 q + nI i) := rfl
  have e15 : mk5 a q (nI i) (nI j) 15 = upd (a 15) q (a 15 q + nI j) := rfl
  refine ⟨fun k hk => ?_, ?_, ?_, fun k hk => ?_⟩
  · unfold mk5 aset
    rw [if_neg (by omega), if_neg (by omega)]
    exact h.1 k hk
  · rw [e14, pk_us, h.2.1, nI_add]
  · rw [e15, pk_us, h.2.2.1, nI_add]
  · rw [e14, e15, pk_un hk, pk_un hk]
    exact h.2.2.2 k hk
theorem GRf_mk5 {es : List Ev} {W : Nat → Nat → Option Mk} {a : Nat → Nat → Int32} {q : Nat} {i j : Int32} (h : GRf es W a) : GRf es W (mk5 a q i j) := h
theorem slotR_WS {a0 a : Nat → Nat → Int32} {q u e f : Nat} {es : List Ev} (h : WS a0 a q u e) (hs : slotR a0 f es) : slotR a f es := slotR_congr (h.1 1 (by omega)) (h.1 2 (by omega)) (h.1 3 (by omega)) hs
/-- the walk at its head -/
def goH (G : mG) (d N M f : Nat) (i0 j0 : Int32) (post : Option Value → mH → Prop) (x y : Nat) (wy : Int32) (l : Int) (h : mH) : Prop := ∀ x8 x9 x10 x11, MW G MX7_goOne (mz G d 0 0 post) 12 [some (.ref M), some (.int (nI f)), some (.int i0), some (.int j0), some (.int (nI x)), some (.int (nI y)), some (.int wy), some (.int (zI l)), x8, x9, x10, x11] [] h (N, 0, 0)
section GOS
variable {G : mG} {d N M f q : Nat} {es : List Ev} {post : Option Value → mH → Prop} {v : Nat → Int32} {a0 : Nat → Nat → Int32} {i0 j0 : Int32} {hh : mH}
theorem zI_up (l : Int) : zI l + 1 = zI (l + 1) := z_add l 1
theorem zI_dn (l : Int) : zI l + -1 = zI (l + -1) := by
  rw [show (-1 : Int32) = zI (-1) by decide, z_add]
theorem nI_xm (x : Nat) : nI (x + 1) + -1 = nI x := pk_m1 x
theorem walkR (hw : whl es) (hs : slotR a0 f es) (hf : f < 8) (hq : v 24 = nI q) (hq15 : q < 15) {V : VM} {c u e : Nat} {l : Int}
    (K : ∀ (xd : Nat) (h' : mH) (a' : Nat → Nat → Int32) (y' u' e' : Nat) (l' : Int), ends es xd c → GRf es (WR es V c (q, true, l) (xd + 1)) a' → ModelC h' G M v a' → mKeep hh h' M (M + 17) → WS a0 a' q (u + u') (e + e') → ((arcF es xd (evP es xd) = c ∧ y' = evP es xd + 1 ∧ l' = l + 1 ∧ u' = 1 ∧ e' = 0) ∨ (arcF es xd (evP es xd + 1) = c ∧ y' = evP es xd ∧ l' = l + -1 ∧ u' = 0 ∧ e' = 1)) → goH G d N M f i0 j0 post xd y' (-1) l' h') :
    ∀ (n x y : Nat) (a : Nat → Nat → Int32) (h : mH), es.length - x = n → x ≤ es.length → y < aN es x → arcF es x y = c → GRf es (WR es V c (q, true, l) x) a → ModelC h G M v a → mKeep hh h M (M + 17) → WS a0 a q u e → goH G d N M f i0 j0 post x y 1 l h := by
  intro n
  induction n with
  | zero =>
    intro x y a h hn hx hy
    have := (aN_le hw hx hy).1
    omega
  | succ n ih =>
    intro x y a h hn hx hy hc hG hM hk hS x8 x9 x10 x11
    obtain ⟨hl, hy10⟩ := aN_le hw hx hy
    have b30 := (vld_bd hw.1).1
    have hun : a 10 (10 * x + y) = -4 := by
      have z := hG x y hx hy
      unfold WR at z
      rw [if_pos hc, if_neg (by omega)] at z
      exact z
    have hs' := slotR_WS hS hs
    obtain ⟨hK, hP⟩ := hs'.2 x hl
    have sm := vld_sm hw.1 hl
    have ho := ev_ok hw.1 hl
    refine go_mark hM hf hq hq15 (by omega) (by omega) hun (fun h1 hM1 hk1 => ?_)
    have hG1 := GRf_right hw hx hy hc hG
    have hS1 : WS a0 (mk3 a (10 * x + y) (nI q) 1 (zI l)) q u e := WS_mk3 hS
    generalize mk3 a (10 * x + y) (nI q) 1 (zI l) = a1 at hM1 hG1 hS1
    have hK1 : a1 2 (30 * f + x) = nI (evK es x) := ((slotR_WS hS1 hs).2 x hl).1
    have hP1 : a1 3 (30 * f + x) = nI (evP es x) := ((slotR_WS hS1 hs).2 x hl).2
    refine go_evR (p := evP es x) hM1 hf hq hq15 (by omega) hK1 hP1 ?_
    have hce : (30 * nI f + nI x).toNatClampNeg = 30 * f + x := by simp (disch := omega) only [z_nI, z_lit, z_neg, z_add, z_sub, z_mul, z_lt, z_le, z_eq, z_in, z_cl]; omega
    have ve : vp_in (30 * nI f + nI x) 240 := by simp (disch := omega) only [z_nI, z_lit, z_neg, z_add, z_sub, z_mul, z_lt, z_le, z_eq, z_in, z_cl]; omega
    by_cases hc2 : evK es x = 2 ∧ (y = evP es x ∨ y = evP es x + 1)
    · obtain ⟨c2, hy2⟩ := hc2
      rw [c2] at hK1
      rcases hy2 with e1 | e1
      · rw [e1] at hc ⊢
        refine go_cR1 hM1 hf hq hq15 (by omega) hce ve hK1 (fun h2 z11 hM2 hk2 => ?_)
        have := K x h2 _ (evP es x + 1) 1 0 (l + 1) ⟨hl, c2, Or.inl hc⟩ (GRf_mk5 hG1) hM2 (mKeep_trans (mKeep_trans hk hk1) hk2) (WS_mk5 (i := 1) (j := 0) hS1) (Or.inl ⟨hc, rfl, rfl, rfl, rfl⟩)
        rw [nI_1, zI_up]
        exact this _ _ _ _
      · rw [e1] at hc ⊢
        refine go_cR0 hM1 hf hq hq15 (by omega) hce ve hK1 (fun h2 z11 hM2 hk2 => ?_)
        have := K x h2 _ (evP es x) 0 1 (l + -1) ⟨hl, c2, Or.inr hc⟩ (GRf_mk5 hG1) hM2 (mKeep_trans (mKeep_trans hk hk1) hk2) (WS_mk5 (i := 0) (j := 1) hS1) (Or.inr ⟨hc, rfl, rfl, rfl, rfl⟩)
        rw [zI_dn]
        exact this _ _ _ _
    · obtain ⟨r1, r2⟩ := rgt_arc hw.1 hl hy hc2
      have nx := ih (x + 1) (rgt es x y) a1 h1 (by omega) (by omega) r2 (r1.trans hc) hG1 hM1 (mKeep_trans hk hk1) hS1
      unfold rgt at nx
      rcases (by omega : evK es x = 0 ∨ evK es x = 1 ∨ evK es x = 2) with k0 | k0 | k0
      · rw [if_pos k0] at nx
        rw [k0] at hK1
        refine go_nR0 hM1 hf hq hq15 (by omega) (by omega) hce ve hK1 ?_
        rw [nI_1]
        exact nx _ _ _ _
      · rw [if_neg (by omega), if_pos k0] at nx
        rw [k0] at hK1
        refine go_nR1 hM1 hf hq hq15 (by omega) (by omega) hce ve hK1 ?_
        rw [nI_1]
        exact nx _ _ _ _
      · rw [if_neg (by omega), if_neg (by omega)] at nx
        rw [k0] at hK1
        refine go_nR2 hM1 hf hq hq15 (by omega) (by omega) hce ve hK1 ⟨fun z => hc2 ⟨k0, Or.inl z⟩, fun z => hc2 ⟨k0, Or.inr z⟩⟩ ?_
        rw [nI_1]
        exact nx _ _ _ _
theorem walkL (hw : whl es) (hs : slotR a0 f es) (hf : f < 8) (hq : v 24 = nI q) (hq15 : q < 15) {V : VM} {c u e : Nat} {l : Int}
    (K : ∀ (xb : Nat) (h' : mH) (a' : Nat → Nat → Int32) (y' u' e' : Nat) (l' : Int), xb < es.length → evK es xb = 0 → GRf es (WL es V c (q, false, l) xb) a' → ModelC h' G M v a' → mKeep hh h' M (M + 17) → WS a0 a' q (u + u') (e + e') → ((c = 2 * bth es xb ∧ y' = evP es xb + 1 ∧ l' = l + 1 ∧ u' = 1 ∧ e' = 0) ∨ (c = 2 * bth es xb + 1 ∧ y' = evP es xb ∧ l' = l + -1 ∧ u' = 0 ∧ e' = 1)) → goH G d N M f i0 j0 post (xb + 1) y' 1 l' h') :
    ∀ (x y : Nat) (a : Nat → Nat → Int32) (h : mH), x ≤ es.length → y < aN es x → arcF es x y = c → GRf es (WL es V c (q, false, l) x) a → ModelC h G M v a → mKeep hh h M (M + 17) → WS a0 a q u e → goH G d N M f i0 j0 post x y (-1) l h := by
  intro x
  induction x with
  | zero =>
    intro y a h hx hy
    rw [aN_zero] at hy
    omega
  | succ x ih =>
    intro y a h hx hy hc hG hM hk hS x8 x9 x10 x11
    have hl : x < es.length := by omega
    have hy10 := (aN_le hw hx hy).2
    have b30 := (vld_bd hw.1).1
    have hun : a 10 (10 * (x + 1) + y) = -4 := by
      have z := hG (x + 1) y hx hy
      unfold WL at z
      rw [if_pos hc, if_neg (by omega)] at z
      exact z
    have sm := vld_sm hw.1 hl
    refine go_mark hM hf hq hq15 (by omega) (by omega) hun (fun h1 hM1 hk1 => ?_)
    have hG1 := GRf_left hw hx hy hc hG
    have hS1 : WS a0 (mk3 a (10 * (x + 1) + y) (nI q) (-1) (zI l)) q u e := WS_mk3 hS
    generalize mk3 a (10 * (x + 1) + y) (nI q) (-1) (zI l) = a1 at hM1 hG1 hS1
    have hK1 : a1 2 (30 * f + x) = nI (evK es x) := ((slotR_WS hS1 hs).2 x hl).1
    have hP1 : a1 3 (30 * f + x) = nI (evP es x) := ((slotR_WS hS1 hs).2 x hl).2
    refine go_evL (p := evP es x) hM1 hf hq hq15 (by omega) hK1 hP1 ?_
    have hce : (30 * nI f + (nI (x + 1) - 1)).toNatClampNeg = 30 * f + x := by simp (disch := omega) only [z_nI, z_lit, z_neg, z_add, z_sub, z_mul, z_lt, z_le, z_eq, z_in, z_cl]; omega
    have ve : vp_in (30 * nI f + (nI (x + 1) - 1)) 240 := by simp (disch := omega) only [z_nI, z_lit, z_neg, z_add, z_sub, z_mul, z_lt, z_le, z_eq, z_in, z_cl]; omega
    by_cases hc2 : evK es x = 0 ∧ (y = evP es x ∨ y = evP es x + 1)
    · obtain ⟨c2, hy2⟩ := hc2
      rw [c2] at hK1
      rcases hy2 with e1 | e1
      · rw [e1] at hc ⊢
        refine go_cL1 hM1 hf hq hq15 (by omega) hce ve hK1 (fun h2 z11 hM2 hk2 => ?_)
        have := K x h2 _ (evP es x + 1) 1 0 (l + 1) hl c2 (GRf_mk5 hG1) hM2 (mKeep_trans (mKeep_trans hk hk1) hk2) (WS_mk5 (i := 1) (j := 0) hS1) (Or.inl ⟨by rw [← hc, arc_b1 c2], rfl, rfl, rfl, rfl⟩)
        rw [nI_1, zI_up]
        exact this _ _ _ _
      · rw [e1] at hc ⊢
        refine go_cL0 hM1 hf hq hq15 (by omega) hce ve hK1 (fun h2 z11 hM2 hk2 => ?_)
        have := K x h2 _ (evP es x) 0 1 (l + -1) hl c2 (GRf_mk5 hG1) hM2 (mKeep_trans (mKeep_trans hk hk1) hk2) (WS_mk5 (i := 0) (j := 1) hS1) (Or.inr ⟨by rw [← hc, arc_b2 c2], rfl, rfl, rfl, rfl⟩)
        rw [zI_dn]
        exact this _ _ _ _
    · obtain ⟨r1, r2⟩ := lft_arc hw.1 hl hy hc2
      have nx := ih (lft es x y) a1 h1 (by omega) r2 (r1.trans hc) hG1 hM1 (mKeep_trans hk hk1) hS1
      unfold lft at nx
      have ho := ev_ok hw.1 hl
      rcases (by omega : evK es x = 0 ∨ evK es x = 1 ∨ evK es x = 2) with k0 | k0 | k0
      · rw [if_pos k0] at nx
        rw [k0] at hK1
        refine go_nL0 hM1 hf hq hq15 (by omega) (by omega) hce ve hK1 ⟨fun z => hc2 ⟨k0, Or.inl z⟩, fun z => hc2 ⟨k0, Or.inr z⟩⟩ ?_
        rw [nI_xm]
        exact nx _ _ _ _
      · rw [if_neg (by omega), if_pos k0] at nx
        rw [k0] at hK1
        refine go_nL1 hM1 hf hq hq15 (by omega) (by omega) hce ve hK1 ?_
        rw [nI_xm]
        exact nx _ _ _ _
      · rw [if_neg (by omega), if_neg (by omega)] at nx
        rw [k0] at hK1
        refine go_nL2 hM1 hf hq hq15 (by omega) (by omega) hce ve hK1 ?_
        rw [nI_xm]
        exact nx _ _ _ _
/-- all marks as the arcs have them -/
def GR (es : List Ev) (V : VM) (a : Nat → Nat → Int32) : Prop := GRf es (fun x y => V (arcF es x y)) a
theorem goLoop (hw : whl es) (hs : slotR a0 f es) (hf : f < 8) (hq : v 24 = nI q) (hq15 : q < 15) {r0 : Nat} {R : VM × Nat × Nat}
    (hp : ∀ (h' : mH) (a' : Nat → Nat → Int32), GR es R.1 a' → ModelC h' G M v a' → mKeep hh h' M (M + 17) → WS a0 a' q R.2.1 R.2.2 → (∀ c m, R.1 c = some m → m.1 ≤ q) → post none h') :
    ∀ (k : Nat) (V : VM) (u e cur xb y : Nat) (l : Int) (a : Nat → Nat → Int32) (h : mH), wlk es q k V u e cur l = R → WP es V r0 cur → nA es < cnt V (nA es) + 2 * k → (∀ c m, V c = some m → m.1 ≤ q) → xb < es.length → y < aN es (xb + 1) → evK es xb = 0 → (y = evP es xb ∨ y = evP es xb + 1) → arcF es (xb + 1) y = cur → GR es V a → ModelC h G M v a → mKeep hh h M (M + 17) → WS a0 a q u e → goH G d N M f i0 j0 post (xb + 1) y 1 l h := by
  intro k
  induction k with
  | zero =>
    intro V u e cur xb y l a h _ _ hk
    have := cnt_le V (nA es)
    omega
  | succ k ih =>
    intro V u e cur xb y l a h hR hWP hcn hPB hxb hy hbK hyb hcur hG hM hk hS
    unfold wlk at hR
    by_cases c : (V cur).isSome = true
    · rw [if_pos c] at hR
      subst hR
      intro x8 x9 x10 x11
      obtain ⟨m, hm⟩ := Option.isSome_iff_exists.mp c
      have hg := hG (xb + 1) y (by omega) hy
      have hg' : gAt a (10 * (xb + 1) + y) (V (arcF es (xb + 1) y)) := hg
      rw [hcur, hm] at hg'
      have hmq := hPB cur m hm
      have b30 := (vld_bd hw.1).1
      have hy10 := (aN_le hw (by omega) hy).2
      have h0 := hM.1
      have a10 : h (M + 10) = some (.inl (gC G 0, 310, .inl (a 10))) := hM.2 10 (by decide) (by decide)
      have hci : (10 * nI (xb + 1) + nI y).toNatClampNeg = 10 * (xb + 1) + y := by simp (disch := omega) only [z_nI, z_lit, z_neg, z_add, z_sub, z_mul, z_lt, z_le, z_eq, z_in, z_cl]; omega
      have vi : vp_in (10 * nI (xb + 1) + nI y) 310 := by simp (disch := omega) only [z_nI, z_lit, z_neg, z_add, z_sub, z_mul, z_lt, z_le, z_eq, z_in, z_cl]; omega
      have f1 : (a 10 (10 * (xb + 1) + y) = -4) = False := eq_false (by rw [hg'.1]; simp (disch := omega) only [z_nI, z_lit, z_neg, z_add, z_sub, z_mul, z_lt, z_le, z_eq, z_in, z_cl]; omega)
      have hpost := hp h a hG hM hk hS hPB
      clear hp ih hcn hyb
      refine MW.run1 gd_X7_goOne [12] 30 ?_
      simp (disch := omega) only [↓EVj, ↓w_if_eq, ↓EVc, ↓ft_X7_goOne, ↓reduceIte, ↓EV_obs, ↓EV_obn, ↓EV_ais, ↓EV_ain, ↓EV_ob h0, ↓EV_ai a10, mdF, mRun, List.mem_cons, List.not_mem_nil, or_false, mtab_eq, Nat.reduceEqDiff, Nat.zero_add, hci, vi, f1, mset2, b10, b00, not_true_eq_false, not_false_eq_true, true_implies, false_implies, implies_true, and_true, true_and, Nat.le_refl, true_or, or_true, eq_self, List.length_cons, List.length_nil, Nat.reduceAdd, Nat.reduceLT, Nat.reduceLeDiff]
      exact hpost
    · rw [if_neg c] at hR
      have hn : V cur = none := by
        cases e : V cur with
        | none => rfl
        | some _ => rw [e] at c; exact absurd rfl c
      obtain ⟨s1, s2, s3⟩ := WP_step hw (q := q) (l := l) hWP hn
      obtain ⟨m1, m2, m3⟩ := mt_ok hw hWP.1
      have hG0 : GRf es (WR es V cur (q, true, l) (xb + 1)) a := by
        intro x y' hx' hy'
        have z := hG x y' hx' hy'
        have z' : gAt a (10 * x + y') (V (arcF es x y')) := z
        unfold WR
        by_cases c1 : arcF es x y' = cur
        · rw [if_pos c1]
          rw [c1, hn] at z'
          by_cases c2 : x < xb + 1
          · exfalso
            have t1 := arc_lt hw.1 x y' hx' hy'
            have t2 := bth_mono (es := es) x xb (by omega) (by omega)
            have t3 : 2 * bth es xb ≤ cur := by
              rcases hyb with hyb | hyb
              · rw [← hcur, hyb, arc_b1 hbK]
                omega
              · rw [← hcur, hyb, arc_b2 hbK]
                omega
            omega
          · rw [if_neg c2]
            exact z'
        · rw [if_neg c1]
          exact z'
      refine walkR (hh := hh) hw hs hf hq hq15 (V := V) (c := cur) (u := u) (e := e) (l := l) ?_ (es.length - (xb + 1)) (xb + 1) y a h rfl (by omega) hy hcur hG0 hM hk hS
      intro xd h1 a1 y1 u1 e1 l1 hend hG1 hM1 hk1 hS1 hcase
      have hd := ev_ok hw.1 hend.1
      have hd2 := hd.2.2.2.2 hend.2.1
      -- the marks of the first arc are complete
      have hG1' : GR es (vset V cur (q, true, l)) a1 := by
        intro x y' hx' hy'
        have z := hG1 x y' hx' hy'
        unfold WR at z
        show gAt a1 (10 * x + y') (vset V cur (q, true, l) (arcF es x y'))
        unfold vset
        by_cases c1 : arcF es x y' = cur
        · rw [if_pos c1] at z ⊢
          have : x < xd + 1 := by
            apply Classical.byContradiction
            intro n
            exact ends_gone hw.1 hend x y' (by omega) hx' hy' c1
          rw [if_pos this] at z
          exact z
        · rw [if_neg c1] at z ⊢
          exact z
      have mtc : mt es cur = arcF es xd y1 ∧ y1 < aN es xd ∧ ends es xd (mt es cur) ∧ l1 = lv1 es cur l ∧ u1 = (if ab es cur = true then 0 else 1) ∧ e1 = (if ab es cur = true then 1 else 0) := by
        unfold lv1
        rcases hcase with ⟨q1, q2, q3, q4, q5⟩ | ⟨q1, q2, q3, q4, q5⟩
        · have t := mt_low hw.1 hend.1 hend.2.1
          rw [q1] at t
          rw [t.1, t.2, q2]
          exact ⟨rfl, by omega, ⟨hend.1, hend.2.1, Or.inr rfl⟩, by rw [q3]; simp, by rw [q4]; simp, by rw [q5]; simp⟩
        · have t := mt_up hw.1 hend.1 hend.2.1
          rw [q1] at t
          rw [t.1, t.2, q2]
          exact ⟨rfl, by omega, ⟨hend.1, hend.2.1, Or.inl rfl⟩, by rw [q3]; simp, by rw [q4]; simp, by rw [q5]; simp⟩
      obtain ⟨t1, t2, t3, t4, t5, t6⟩ := mtc
      have hVm : vset V cur (q, true, l) (mt es cur) = none := by
        unfold vset
        rw [if_neg m3]
        exact s3
      have hG2 : GRf es (WL es (vset V cur (q, true, l)) (mt es cur) (q, false, l1) xd) a1 := by
        intro x y' hx' hy'
        have z := hG1' x y' hx' hy'
        have z' : gAt a1 (10 * x + y') (vset V cur (q, true, l) (arcF es x y')) := z
        unfold WL
        by_cases c1 : arcF es x y' = mt es cur
        · rw [if_pos c1]
          rw [c1, hVm] at z'
          by_cases c2 : xd < x
          · exact absurd c1 (ends_gone hw.1 t3 x y' c2 hx' hy')
          · rw [if_neg c2]
            exact z'
        · rw [if_neg c1]
          exact z'
      refine walkL (hh := hh) hw hs hf hq hq15 (V := vset V cur (q, true, l)) (c := mt es cur) (u := u + u1) (e := e + e1) (l := l1) ?_ xd y1 a1 h1 (Nat.le_of_lt hend.1) t2 t1.symm hG2 hM1 hk1 hS1
      intro xb2 h2 a2 y2 u2 e2 l2 hxb2 hbK2 hG3 hM2 hk2 hS2 hcase2
      have hb2 := (ev_ok hw.1 hxb2).2.2.1 hbK2
      have hG3' : GR es (v2 es q V cur l) a2 := by
        intro x y' hx' hy'
        have z := hG3 x y' hx' hy'
        unfold WL at z
        show gAt a2 (10 * x + y') (v2 es q V cur l (arcF es x y'))
        unfold v2
        rw [show vset (vset V cur (q, true, l)) (mt es cur) (q, false, lv1 es cur l) (arcF es x y') = (if arcF es x y' = mt es cur then some (q, false, lv1 es cur l) else vset V cur (q, true, l) (arcF es x y')) from rfl]
        by_cases c1 : arcF es x y' = mt es cur
        · rw [if_pos c1] at z ⊢
          have : xb2 < x := by
            apply Classical.byContradiction
            intro n
            have w1 := arc_lt hw.1 x y' hx' hy'
            have w2 := bth_mono (es := es) x xb2 (by omega) (by omega)
            have w3 : 2 * bth es xb2 ≤ mt es cur := by
              rcases hcase2 with ⟨q1, -⟩ | ⟨q1, -⟩ <;> omega
            omega
          rw [if_pos this, t4] at z
          exact z
        · rw [if_neg c1] at z ⊢
          exact z
      have fin : par (mt es cur) = arcF es (xb2 + 1) y2 ∧ y2 < aN es (xb2 + 1) ∧ (y2 = evP es xb2 ∨ y2 = evP es xb2 + 1) ∧ l2 = lv2 es cur l ∧ u2 = (if mt es cur % 2 = 1 then 0 else 1) ∧ e2 = (if mt es cur % 2 = 1 then 1 else 0) := by
        unfold lv2 par
        rw [← t4]
        rcases hcase2 with ⟨q1, q2, q3, q4, q5⟩ | ⟨q1, q2, q3, q4, q5⟩
        · have o1 : mt es cur % 2 = 0 := by omega
          rw [if_pos o1, q2, arc_b2 hbK2, if_neg (by omega), if_neg (by omega), if_neg (by omega)]
          exact ⟨by omega, by omega, Or.inr rfl, q3, q4, q5⟩
        · have o1 : mt es cur % 2 = 1 := by omega
          rw [if_neg (by omega), q2, arc_b1 hbK2, if_pos o1, if_pos o1, if_pos o1]
          exact ⟨by omega, by omega, Or.inl rfl, q3, q4, q5⟩
      obtain ⟨f1, f2, f3, f4, f5, f6⟩ := fin
      rw [f4]
      have hS3 : WS a0 a2 q (u + wu es cur) (e + wd es cur) := by
        unfold wu wd
        rw [← t5, ← t6, ← f5, ← f6, ← Nat.add_assoc, ← Nat.add_assoc]
        exact hS2
      refine ih (v2 es q V cur l) (u + wu es cur) (e + wd es cur) (par (mt es cur)) xb2 y2 (lv2 es cur l) a2 h2 hR s1 (by omega) (fun c3 m hm => ?_) hxb2 f2 hbK2 f3 f1.symm hG3' hM2 hk2 hS3
      unfold v2 vset at hm
      by_cases w1 : c3 = mt es cur
      · rw [if_pos w1] at hm
        cases hm
        exact Nat.le_refl _
      · rw [if_neg w1] at hm
        by_cases w2 : c3 = cur
        · rw [if_pos w2] at hm
          cases hm
          exact Nat.le_refl _
        · rw [if_neg w2] at hm
          exact hPB c3 m hm
end GOS
