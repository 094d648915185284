/-! counts: arcs of a piece, deaths of a piece, deaths at all -/
def ctP (P : Nat → Bool) (n : Nat) : Nat := (List.range n).countP P
theorem ctP_succ (P : Nat → Bool) (n : Nat) : ctP P (n + 1) = ctP P n + (if P n = true then 1 else 0) := by
  unfold ctP
  rw [List.range_succ, List.countP_append]
  by_cases c : P n = true <;> simp [c]
theorem ctP_congr {P Q : Nat → Bool} : ∀ {n : Nat}, (∀ a, a < n → P a = Q a) → ctP P n = ctP Q n
  | 0, _ => rfl
  | n + 1, h => by
    rw [ctP_succ, ctP_succ, ctP_congr (fun a ha => h a (by omega)), h n (by omega)]
theorem ctP_set {P Q : Nat → Bool} {c : Nat} : ∀ {n : Nat}, c < n → P c = false → Q c = true → (∀ a, a < n → a ≠ c → Q a = P a) → ctP Q n = ctP P n + 1
  | 0, h, _, _, _ => absurd h (Nat.not_lt_zero _)
  | n + 1, h, h1, h2, h3 => by
    rw [ctP_succ, ctP_succ]
    by_cases k : c = n
    · subst k
      rw [ctP_congr (fun a ha => h3 a (by omega) (by omega)), h1, h2, if_pos rfl, if_neg (by decide)]
    · rw [ctP_set (n := n) (by omega) h1 h2 (fun a ha => h3 a (by omega)), h3 n (by omega) (by omega)]
      omega
theorem ctP_set2 {P Q : Nat → Bool} {c e n : Nat} (hc : c < n) (he : e < n) (hce : c ≠ e) (h1 : P c = false) (h2 : P e = false) (h3 : Q c = true) (h4 : Q e = true) (h5 : ∀ a, a < n → a ≠ c → a ≠ e → Q a = P a) : ctP Q n = ctP P n + 2 := by
  have k1 : ctP (fun a => if a = c then true else P a) n = ctP P n + 1 := ctP_set hc h1 (by rw [if_pos rfl]) (fun a _ ha => by rw [if_neg ha])
  have k2 : ctP Q n = ctP (fun a => if a = c then true else P a) n + 1 := ctP_set he (by rw [if_neg (fun z => hce z.symm)]; exact h2) h4 (fun a ha hne => by
    by_cases z : a = c
    · rw [if_pos z, z, h3]
    · rw [if_neg z]
      exact h5 a ha z hne)
  omega
theorem ctP_0 (n : Nat) : ctP (fun _ => false) n = 0 := by
  induction n with
  | zero => rfl
  | succ n ih => rw [ctP_succ, ih]; rfl
def pcB (o : Option Mk) (p : Nat) : Bool := match o with
  | none => false
  | some m => decide (m.1 = p)
/-- the arcs of piece p -/
def cq (es : List Ev) (V : VM) (p : Nat) : Nat := ctP (fun a => pcB (V a) p) (nA es)
theorem wu_wd (es : List Ev) (cur : Nat) : wu es cur + wd es cur = 2 := by
  unfold wu wd
  cases ab es cur <;> by_cases c : mt es cur % 2 = 1 <;> simp [c]
theorem v2_at {es : List Ev} {q : Nat} {V : VM} {cur : Nat} {l : Int} {a : Nat} (h1 : a ≠ cur) (h2 : a ≠ mt es cur) : v2 es q V cur l a = V a := by
  unfold v2 vset
  rw [if_neg h2, if_neg h1]
theorem v2_m {es : List Ev} {q : Nat} {V : VM} {cur : Nat} {l : Int} : v2 es q V cur l (mt es cur) = some (q, false, lv1 es cur l) := by
  unfold v2 vset
  rw [if_pos rfl]
theorem v2_c {es : List Ev} {q : Nat} {V : VM} {cur : Nat} {l : Int} (h : mt es cur ≠ cur) : v2 es q V cur l cur = some (q, true, l) := by
  unfold v2 vset
  rw [if_neg (fun z => h z.symm), if_pos rfl]
/-- mates are of one piece -/
def SP (es : List Ev) (V : VM) : Prop := ∀ a m, V a = some m → ∃ m', V (mt es a) = some m' ∧ m'.1 = m.1
theorem wlk_ct {es : List Ev} (hw : whl es) {q r0 : Nat} : ∀ (k : Nat) (V : VM) (u e cur : Nat) (l : Int), WP es V r0 cur → (∀ a, (V a).isSome = true → a < nA es) → SP es V → ((wlk es q k V u e cur l).2.1 + (wlk es q k V u e cur l).2.2 + cq es V q = u + e + cq es (wlk es q k V u e cur l).1 q) ∧ (∀ p, p ≠ q → cq es (wlk es q k V u e cur l).1 p = cq es V p) ∧ SP es (wlk es q k V u e cur l).1
  | 0, V, u, e, cur, l, h, hb, hS => ⟨rfl, fun _ _ => rfl, hS⟩
  | k + 1, V, u, e, cur, l, h, hb, hS => by
    unfold wlk
    by_cases c : (V cur).isSome = true
    · rw [if_pos c]
      exact ⟨rfl, fun _ _ => rfl, hS⟩
    · rw [if_neg c]
      have hn : V cur = none := by
        cases e : V cur with
        | none => rfl
        | some _ => rw [e] at c; exact absurd rfl c
      obtain ⟨s1, s2, s3⟩ := WP_step hw (q := q) (l := l) h hn
      obtain ⟨m1, m2, m3⟩ := mt_ok hw h.1
      have hb' : ∀ a, ((v2 es q V cur l) a).isSome = true → a < nA es := by
        intro a ha
        rcases v2_some.mp ha with z | z | z
        · rw [z]; exact h.1
        · rw [z]; exact m1
        · exact hb a z
      have hS' : SP es (v2 es q V cur l) := by
        intro a m hm
        by_cases c1 : a = cur
        · rw [c1, v2_c m3] at hm
          cases hm
          exact ⟨(q, false, lv1 es cur l), by rw [c1]; exact v2_m, rfl⟩
        · by_cases c2 : a = mt es cur
          · rw [c2, v2_m] at hm
            cases hm
            exact ⟨(q, true, l), by rw [c2, m2]; exact v2_c m3, rfl⟩
          · rw [v2_at c1 c2] at hm
            obtain ⟨m', hm', e'⟩ := hS a m hm
            refine ⟨m', ?_, e'⟩
            have ha := hb a (by rw [hm]; rfl)
            rw [v2_at (fun z => by rw [z, hn] at hm'; cases hm') (fun z => by rw [z, s3] at hm'; cases hm')]
            exact hm'
      obtain ⟨i1, i2, i3⟩ := wlk_ct hw (q := q) k (v2 es q V cur l) (u + wu es cur) (e + wd es cur) (par (mt es cur)) (lv2 es cur l) s1 hb' hS'
      have hc2 : cq es (v2 es q V cur l) q = cq es V q + 2 := by
        unfold cq
        refine ctP_set2 h.1 m1 (fun z => m3 z.symm) (by rw [hn]; rfl) (by rw [s3]; rfl) ?_ ?_ (fun a _ h1 h2 => by rw [v2_at h1 h2])
        · show pcB (v2 es q V cur l cur) q = true
          rw [v2_c m3]
          exact decide_eq_true rfl
        · show pcB (v2 es q V cur l (mt es cur)) q = true
          rw [v2_m]
          exact decide_eq_true rfl
      have hw2 := wu_wd es cur
      refine ⟨by omega, fun p hp => ?_, i3⟩
      rw [i2 p hp]
      unfold cq
      refine ctP_congr (fun a _ => ?_)
      show pcB (v2 es q V cur l a) p = pcB (V a) p
      by_cases c1 : a = cur
      · rw [c1, v2_c m3, hn]
        exact decide_eq_false (fun z => hp z.symm)
      · by_cases c2 : a = mt es cur
        · rw [c2, v2_m, s3]
          exact decide_eq_false (fun z => hp z.symm)
        · rw [v2_at c1 c2]
theorem trc_ct {es : List Ev} (hw : whl es) : ∀ j, j ≤ bth es es.length → SP es (trc es j).1 ∧ (∀ p, p < (trc es j).2.1 → (trc es j).2.2.2.1 p + (trc es j).2.2.2.2 p = cq es (trc es j).1 p) ∧ ∀ p, (trc es j).2.1 ≤ p → cq es (trc es j).1 p = 0
  | 0, _ => ⟨fun a m hm => absurd hm (by show ¬ (none : Option Mk) = some m; simp), fun p hp => absurd hp (Nat.not_lt_zero _), fun p _ => ctP_0 _⟩
  | j + 1, hj => by
    obtain ⟨i1, i2, i3⟩ := trc_ct hw j (by omega)
    obtain ⟨o1, o2, o3⟩ := trc_ok hw j (by omega)
    have hlt : 2 * j + 1 < nA es := by unfold nA; omega
    unfold trc
    by_cases c : ((trc es j).1 (2 * j + 1)).isSome = true
    · rw [if_pos c]
      exact ⟨i1, i2, i3⟩
    · rw [if_neg c]
      have hn : (trc es j).1 (2 * j + 1) = none := by
        cases e : (trc es j).1 (2 * j + 1) with
        | none => rfl
        | some _ => rw [e] at c; exact absurd rfl c
      obtain ⟨k1, k2, k3⟩ := wlk_ct hw (q := (trc es j).2.1) 16 (trc es j).1 0 0 (2 * j + 1) 0 (CL_WP o1 hlt hn) (fun a ha => (o1 a ha).1) i1
      have z0 := i3 (trc es j).2.1 (Nat.le_refl _)
      refine ⟨k3, fun p hp => ?_, fun p hp => ?_⟩
      · show nset _ _ _ p + nset _ _ _ p = cq es (wlk es (trc es j).2.1 16 (trc es j).1 0 0 (2 * j + 1) 0).1 p
        have hp' : p < (trc es j).2.1 + 1 := hp
        unfold nset
        by_cases c1 : p = (trc es j).2.1
        · rw [if_pos c1, if_pos c1, c1]
          omega
        · rw [if_neg c1, if_neg c1, k2 p c1]
          exact i2 p (by omega)
      · have hp' : (trc es j).2.1 + 1 ≤ p := hp
        show cq es (wlk es (trc es j).2.1 16 (trc es j).1 0 0 (2 * j + 1) 0).1 p = 0
        rw [k2 p (by omega)]
        exact i3 p (by omega)
/-- two arcs end at each death -/
theorem dtM_cq {es : List Ev} (hw : whl es) (p : Nat) : 2 * dtM es p es.length = cq es (trT es).1 p := by
  have hS := (trc_ct hw (bth es es.length) (Nat.le_refl _)).1
  have key : ∀ x, x ≤ es.length → 2 * dtM es p x = ctP (fun a => decide (dE es a < x) && pcB ((trT es).1 a) p) (nA es) := by
    intro x
    induction x with
    | zero =>
      intro _
      rw [ctP_congr (Q := fun _ => false) (fun a _ => by simp), ctP_0]
      rfl
    | succ x ih =>
      intro hx
      have hl : x < es.length := by omega
      have e1 : dtM es p (x + 1) = dtM es p x + (if evK es x = 2 ∧ (loA es x).1 = p then 1 else 0) := rfl
      have ih := ih (by omega)
      by_cases k : evK es x = 2
      · have ho := (ev_ok hw.1 hl).2.2.2.2 k
        have d1 := dE_eq hw.1 (x := x) (a := arcF es x (evP es x)) ⟨hl, k, Or.inl rfl⟩
        have d2 := dE_eq hw.1 (x := x) (a := arcF es x (evP es x + 1)) ⟨hl, k, Or.inr rfl⟩
        have n1 := arc_nA hw (x := x) (y := evP es x) (by omega) (by omega)
        have n2 := arc_nA hw (x := x) (y := evP es x + 1) (by omega) (by omega)
        have hne : arcF es x (evP es x) ≠ arcF es x (evP es x + 1) := fun z => by
          have := arc_inj hw.1 x _ _ (by omega) (by omega) (by omega) z
          omega
        have oth : ∀ a, a < nA es → a ≠ arcF es x (evP es x) → a ≠ arcF es x (evP es x + 1) → (decide (dE es a < x + 1) && pcB ((trT es).1 a) p) = (decide (dE es a < x) && pcB ((trT es).1 a) p) := by
          intro a ha h1 h2
          obtain ⟨x', he⟩ := arc_ends hw ha
          have dx := dE_eq hw.1 he
          have : x' ≠ x := by
            intro z
            subst z
            rcases he.2.2 with z | z
            · exact h1 z.symm
            · exact h2 z.symm
          rw [dx]
          congr 1
          by_cases z : x' < x
          · rw [decide_eq_true z, decide_eq_true (by omega)]
          · rw [decide_eq_false z, decide_eq_false (by omega)]
        obtain ⟨m, hm⟩ := Option.isSome_iff_exists.mp (trT_ok hw _ n1)
        obtain ⟨m', hm', e'⟩ := hS _ m hm
        rw [(mt_low hw.1 hl k).1] at hm'
        have hm2 : (trT es).1 (arcF es x (evP es x + 1)) = some m' := hm'
        have elo : (loA es x).1 = m.1 := by unfold loA tM; rw [hm]; rfl
        by_cases c : m.1 = p
        · rw [if_pos ⟨k, elo.trans c⟩] at e1
          rw [e1, ctP_set2 (P := fun a => decide (dE es a < x) && pcB ((trT es).1 a) p) n1 n2 hne (by simp [d1]) (by simp [d2]) (by rw [d1, hm]; simp [pcB, c]) (by rw [d2, hm2]; simp [pcB, e', c]) oth, ← ih]
          omega
        · rw [if_neg (fun z => c (elo.symm.trans z.2))] at e1
          rw [e1, Nat.add_zero, ih]
          refine ctP_congr (fun a ha => ?_)
          by_cases c1 : a = arcF es x (evP es x)
          · rw [c1, hm]
            simp [pcB, c]
          · by_cases c2 : a = arcF es x (evP es x + 1)
            · rw [c2, hm2]
              simp [pcB, e', c]
            · exact (oth a ha c1 c2).symm
      · rw [if_neg (fun z => k z.1)] at e1
        rw [e1, Nat.add_zero, ih]
        refine ctP_congr (fun a ha => ?_)
        obtain ⟨x', he⟩ := arc_ends hw ha
        have dx := dE_eq hw.1 he
        have : x' ≠ x := by
          intro z
          subst z
          exact k he.2.1
        rw [dx]
        congr 1
        by_cases z : x' < x
        · rw [decide_eq_true z, decide_eq_true (by omega)]
        · rw [decide_eq_false z, decide_eq_false (by omega)]
  rw [key es.length (Nat.le_refl _)]
  unfold cq
  refine ctP_congr (fun a ha => ?_)
  obtain ⟨x', he⟩ := arc_ends hw ha
  rw [dE_eq hw.1 he, decide_eq_true he.1]
  rfl
theorem tUD {es : List Ev} (hw : whl es) {p : Nat} (hp : p < nP es) : tU es p + tD es p = 2 * dtM es p es.length := by
  rw [dtM_cq hw p]
  exact (trc_ct hw (bth es es.length) (Nat.le_refl _)).2.1 p hp
theorem dtM_le {es : List Ev} {p : Nat} : ∀ x, dtM es p x ≤ x
  | 0 => Nat.le_refl _
  | x + 1 => by
    have := dtM_le (es := es) (p := p) x
    show dtM es p x + (if _ then 1 else 0) ≤ x + 1
    split <;> omega
/-- births, crosses, deaths -/
theorem dthC_eq {es : List Ev} (hw : whl es) : 2 * dthC es es.length + crs es = es.length := by
  have key : ∀ x, x ≤ es.length → aN es x + 2 * dthC es x = 2 * bth es x ∧ dthC es x + bth es x + crs (es.take x) = x := by
    intro x
    induction x with
    | zero => intro _; exact ⟨by rw [aN_zero, bth_zero]; rfl, by rw [bth_zero, List.take_zero]; rfl⟩
    | succ x ih =>
      intro hx
      have hl : x < es.length := by omega
      obtain ⟨h1, h2⟩ := ih (by omega)
      have hb := bth_succ (es := es) hl
      have hd : dthC es (x + 1) = dthC es x + (if evK es x = 2 then 1 else 0) := rfl
      have hc : crs (es.take (x + 1)) = crs (es.take x) + (if evK es x = 1 then 1 else 0) := crs_take hl
      obtain ⟨k2, -, e0, e1, e2⟩ := ev_ok hw.1 hl
      rcases (by omega : evK es x = 0 ∨ evK es x = 1 ∨ evK es x = 2) with c | c | c
      · have := e0 c
        rw [c] at hb hd hc
        simp at hb hd hc
        omega
      · have := e1 c
        rw [c] at hb hd hc
        simp at hb hd hc
        omega
      · have := e2 c
        rw [c] at hb hd hc
        simp at hb hd hc
        omega
  obtain ⟨h1, h2⟩ := key es.length (Nat.le_refl _)
  rw [aN_full, hw.2.2] at h1
  rw [List.take_length] at h2
  omega
/-- PLUS less MINUS of the crosses with p below and q above, ahead of them -/
noncomputable def ssM (es : List Ev) (p q : Nat) : Nat → Int
  | 0 => 0
  | i + 1 => ssM es p q i + (if evK es i = 1 ∧ (loA es i).1 = p ∧ (upA es i).1 = q then (if plus es i = true then 1 else -1) else 0)
theorem ssM_same {es : List Ev} {p : Nat} : ∀ i, sgM es p p i = ssM es p p i
  | 0 => rfl
  | i + 1 => by
    show sgM es p p i + _ = ssM es p p i + _
    rw [ssM_same i]
    congr 1
    simp only [or_self]
theorem ssM_two {es : List Ev} {p q : Nat} (h : p ≠ q) : ∀ i, sgM es p q i = ssM es p q i + ssM es q p i
  | 0 => rfl
  | i + 1 => by
    show sgM es p q i + _ = (ssM es p q i + _) + (ssM es q p i + _)
    rw [ssM_two h i]
    by_cases c1 : evK es i = 1 ∧ (loA es i).1 = p ∧ (upA es i).1 = q
    · have c2 : ¬ (evK es i = 1 ∧ (loA es i).1 = q ∧ (upA es i).1 = p) := fun z => h (c1.2.1.symm.trans z.2.1)
      rw [if_pos ⟨c1.1, Or.inl c1.2⟩, if_pos c1, if_neg c2]
      omega
    · by_cases c2 : evK es i = 1 ∧ (loA es i).1 = q ∧ (upA es i).1 = p
      · rw [if_pos ⟨c2.1, Or.inr c2.2⟩, if_neg c1, if_pos c2]
        omega
      · rw [if_neg (fun z => z.2.elim (fun y => c1 ⟨z.1, y⟩) (fun y => c2 ⟨z.1, y⟩)), if_neg c1, if_neg c2]
        omega
