/-! fronts as lists of (kind, number) -/
abbrev Ev : Type := Nat × Nat
def stp (a k : Nat) : Nat := if k = 0 then a + 2 else if k = 2 then a - 2 else a
def ahL (es : List Ev) : Nat := es.foldl (fun a e => stp a e.1) 0
def crs (es : List Ev) : Nat := es.countP (fun e => e.1 == 1)
/-- the next event can stand behind es -/
def okEv (es : List Ev) (k p : Nat) : Prop := k ≤ 2 ∧ es.length < 30 ∧ (k = 1 → crs es < 12) ∧ (k = 0 → ahL es + 2 ≤ 10) ∧ (if k = 0 then p ≤ ahL es else p + 2 ≤ ahL es)
def vld (es : List Ev) : Prop := ∀ i, i < es.length → okEv (es.take i) (es.getD i (0, 0)).1 (es.getD i (0, 0)).2
theorem take_snoc {es : List Ev} {i : Nat} (h : i < es.length) : es.take (i + 1) = es.take i ++ [es.getD i (0, 0)] := by
  rw [List.take_succ, List.getD_eq_getElem?_getD]
  simp [h]
theorem ahL_snoc (es : List Ev) (e : Ev) : ahL (es ++ [e]) = stp (ahL es) e.1 := by simp [ahL]
theorem crs_snoc (es : List Ev) (e : Ev) : crs (es ++ [e]) = crs es + (if e.1 = 1 then 1 else 0) := by
  unfold crs
  rw [List.countP_append]
  by_cases c : e.1 = 1 <;> simp [c]
theorem vld_nil : vld [] := fun i h => absurd h (Nat.not_lt_zero i)
theorem vld_snoc {es : List Ev} {k p : Nat} (h : vld es) (h2 : okEv es k p) : vld (es ++ [(k, p)]) := by
  intro i hi
  rw [List.length_append] at hi
  by_cases c : i < es.length
  · rw [List.take_append_of_le_length (by omega), List.getD_eq_getElem?_getD, List.getElem?_append_left c, ← List.getD_eq_getElem?_getD]
    exact h i c
  · have e : i = es.length := by simp at hi; omega
    subst e
    rw [List.take_left' rfl, List.getD_eq_getElem?_getD, List.getElem?_append_right (Nat.le_refl _)]
    simpa using h2
theorem vld_le {es : List Ev} (h : vld es) : ∀ i, i ≤ es.length → i ≤ 30 ∧ ahL (es.take i) ≤ 10 ∧ crs (es.take i) ≤ 12
  | 0, _ => by simp [ahL, crs]
  | i + 1, hi => by
    obtain ⟨h1, h2, h3⟩ := vld_le h i (by omega)
    obtain ⟨o1, o2, o3, o4, o5⟩ := h i (by omega)
    rw [take_snoc (by omega), ahL_snoc, crs_snoc]
    rw [List.length_take] at o2
    generalize (es.getD i (0, 0)).1 = k at *
    refine ⟨by omega, ?_, ?_⟩
    · unfold stp
      split
      · omega
      · split <;> omega
    · split
      · have := o3 (by assumption)
        omega
      · omega
theorem vld_bd {es : List Ev} (h : vld es) : es.length ≤ 30 ∧ ahL es ≤ 10 ∧ crs es ≤ 12 := by
  have := vld_le h es.length (Nat.le_refl _)
  rwa [List.take_length] at this
theorem fRoom_1 {A : Nat → Int32} {l x k a : Nat} (hA : A (nI l).toNatClampNeg = nI a) (ha : a ≤ 10) (hl : l ≤ 30) (hx : x ≤ 12) (hk : k ≤ 2) : fRoom A (nI l) (nI x) (nI k) = 1 ↔ l < 30 ∧ (k = 1 → x < 12) ∧ (k = 0 → a + 2 ≤ 10) := by
  have e1 : (nI l < (30 : Int32)) ↔ l < 30 := nI_ltI (b := 30) (by omega) (by omega)
  have e2 : ((12 : Int32) ≤ nI x) ↔ 12 ≤ x := nI_leI (a := 12) (by omega) (by omega)
  have e3 : ((10 : Int32) < nI a + 2) ↔ 10 < a + 2 := by
    rw [show nI a + 2 = nI (a + 2) from nI_add a 2]
    exact nI_ltI (a := 10) (by omega) (by omega)
  have k0 : (nI k = (0 : Int32)) ↔ k = 0 := nI_eq (b := 0) (by omega) (by omega)
  have k1 : (nI k = (1 : Int32)) ↔ k = 1 := nI_eq (b := 1) (by omega) (by omega)
  unfold fRoom
  simp only [hA, e1, e2, e3, k0, k1]
  by_cases c1 : l < 30
  · by_cases c2 : k = 1
    · subst c2
      by_cases c3 : 12 ≤ x
      · simp [c1, c3] <;> omega
      · simp [c1, c3] <;> omega
    · by_cases c4 : k = 0
      · subst c4
        by_cases c3 : 10 < a + 2
        · simp [c1, c3] <;> omega
        · simp [c1, c3] <;> omega
      · simp [c1, c2, c4]
  · simp [c1]
theorem fStr_1 {A : Nat → Int32} {n p : Int32} {k a : Nat} (hA : A n.toNatClampNeg = nI a) (ha : a ≤ 10) (hk : k ≤ 2) : fStr A n (nI k) p = 1 ↔ ∃ q : Nat, p = nI q ∧ q < 2 ^ 31 ∧ (if k = 0 then q ≤ a else q + 2 ≤ a) := by
  have k0 : (nI k = (0 : Int32)) ↔ k = 0 := nI_eq (b := 0) (by omega) (by omega)
  unfold fStr
  simp only [hA, k0]
  by_cases c1 : p < 0
  · simp only [c1, ↓reduceIte]
    constructor
    · intro h
      exact absurd h (by decide)
    · rintro ⟨q, rfl, hq, -⟩
      exact absurd c1 (nI_pos hq)
  · obtain ⟨q, hq, rfl⟩ := nI_of c1
    simp only [c1, ↓reduceIte]
    have key : ((if k = 0 then nI a else nI a - 2) < nI q) ↔ ¬ (if k = 0 then q ≤ a else q + 2 ≤ a) := by
      by_cases c2 : k = 0
      · simp only [c2, ↓reduceIte]
        rw [nI_ltI (by omega) hq]
        omega
      · simp only [c2, ↓reduceIte]
        rw [Int32.lt_iff_toInt_lt, show nI a - 2 = nI a - nI 2 from rfl, pk_sub_toInt (by omega) (by omega), nI_toInt hq]
        omega
    by_cases c3 : (if k = 0 then nI a else nI a - 2) < nI q
    · simp only [c3, ↓reduceIte]
      constructor
      · intro h
        exact absurd h (by decide)
      · rintro ⟨q2, h1, h2, h3⟩
        have : q = q2 := (nI_eq hq h2).mp h1
        subst this
        exact absurd h3 (key.mp c3)
    · simp only [c3, ↓reduceIte]
      constructor
      · intro _
        exact ⟨q, rfl, hq, Classical.not_not.mp (fun z => c3 (key.mpr z))⟩
      · intro _
        trivial
/-- the cells of a front hold es -/
def FrontR (h : mH) (G : mG) (F : Nat) (es : List Ev) : Prop := vld es ∧ ∃ K P A : Nat → Int32, FrontC h G F K P A (nI es.length) (nI (crs es)) ∧ (∀ i, i < es.length → K i = nI (es.getD i (0, 0)).1 ∧ P i = nI (es.getD i (0, 0)).2) ∧ (∀ i, i ≤ es.length → A i = nI (ahL (es.take i)))
theorem getD_snoc_l {es : List Ev} {e : Ev} {i : Nat} (h : i < es.length) : (es ++ [e]).getD i (0, 0) = es.getD i (0, 0) := by
  rw [List.getD_eq_getElem?_getD, List.getElem?_append_left h, ← List.getD_eq_getElem?_getD]
theorem getD_snoc_r {es : List Ev} {e : Ev} : (es ++ [e]).getD es.length (0, 0) = e := by
  rw [List.getD_eq_getElem?_getD, List.getElem?_append_right (Nat.le_refl _)]
  simp
theorem nI_stp {a k : Nat} (ha : a ≤ 10) (hk : k ≤ 2) (h2 : k = 2 → 2 ≤ a) : nI a + (if nI k = 0 then 2 else if nI k = 2 then -2 else 0) = nI (stp a k) := by
  have k0 : (nI k = (0 : Int32)) ↔ k = 0 := nI_eq (b := 0) (by omega) (by omega)
  have k2 : (nI k = (2 : Int32)) ↔ k = 2 := nI_eq (b := 2) (by omega) (by omega)
  simp only [k0, k2]
  unfold stp
  by_cases c0 : k = 0
  · simp only [c0, ↓reduceIte]
    exact nI_add a 2
  · by_cases c2 : k = 2
    · have e := pk_sub (a := a) (b := 2) (h2 c2)
      rw [if_neg c0, if_pos c2, if_neg c0, if_pos c2, ← e]
      show nI a + (-2) = nI a - 2
      rw [Int32.sub_eq_add_neg]
    · simp only [c0, c2, ↓reduceIte]
      exact nI_add a 0
theorem c_append {G : mG} {d N : Nat} {F : Nat} {es : List Ev} {k p : Int32} {h : mH} {post : Option Value → mH → Prop} (hF : FrontR h G F es) (hd : 2 ≤ d)
    (hp0 : (¬ ∃ k' p' : Nat, k = nI k' ∧ p = nI p' ∧ okEv es k' p') → post (some (.int 0)) h)
    (hp1 : ∀ k' p' : Nat, k = nI k' → p = nI p' → okEv es k' p' → ∀ h', FrontR h' G F (es ++ [(k', p')]) → mKeep h h' F (F + 3) → post (some (.int 1)) h') : MC G MX0_append d 0 0 [.ref F, .int k, .int p] h N post := by
  obtain ⟨hv, K, P, A, hC, hKP, hA⟩ := hF
  obtain ⟨b1, b2, b3⟩ := vld_bd hv
  have hcl : (nI es.length).toNatClampNeg = es.length := nI_clamp (by omega)
  have hAl : A (nI es.length).toNatClampNeg = nI (ahL es) := by rw [hcl, hA _ (Nat.le_refl _), List.take_length]
  have key : (¬ k < 0 ∧ ¬ 2 < k ∧ fRoom A (nI es.length) (nI (crs es)) k = 1 ∧ fStr A (nI es.length) k p = 1) ↔ ∃ k' p' : Nat, k = nI k' ∧ p = nI p' ∧ okEv es k' p' := by
    constructor
    · rintro ⟨c1, c2, c3, c4⟩
      obtain ⟨k', hk', rfl⟩ := nI_of c1
      have hk2 : k' ≤ 2 := by
        rcases Nat.lt_or_ge 2 k' with q | q
        · exact absurd ((nI_ltI (a := 2) (by omega) hk').mpr q) c2
        · exact q
      rw [fRoom_1 hAl b2 b1 b3 hk2] at c3
      rw [fStr_1 hAl b2 hk2] at c4
      obtain ⟨q, rfl, hq, hq2⟩ := c4
      exact ⟨k', q, rfl, rfl, hk2, c3.1, c3.2.1, c3.2.2, hq2⟩
    · rintro ⟨k', p', rfl, rfl, o1, o2, o3, o4, o5⟩
      have hp' : p' ≤ 10 := by split at o5 <;> omega
      refine ⟨nI_pos (by omega), fun q => ?_, (fRoom_1 hAl b2 b1 b3 o1).mpr ⟨o2, o3, o4⟩, (fStr_1 hAl b2 o1).mpr ⟨p', rfl, by omega, o5⟩⟩
      have := (nI_ltI (a := 2) (by omega) (by omega)).mp q
      omega
  refine t_append hC hd (vp_in_nI (by omega) (by omega)) (fun c => ?_) (fun q => hp0 (fun z => q (key.mpr z))) (fun q h' hC' hk => ?_)
  · have c' : es.length < 30 := (nI_ltI (b := 30) (by omega) (by omega)).mp c
    exact ⟨vp_in_nI c' (by omega), by rw [nI_1]; exact vp_in_nI (by omega) (by omega)⟩
  · obtain ⟨k', p', rfl, rfl, ok⟩ := key.mp q
    refine hp1 k' p' rfl rfl ok h' ⟨vld_snoc hv ok, upd K (nI es.length).toNatClampNeg (nI k'), upd P (nI es.length).toNatClampNeg (nI p'), upd A (nI es.length + 1).toNatClampNeg (A (nI es.length).toNatClampNeg + (if nI k' = 0 then 2 else if nI k' = 2 then -2 else 0)), ?_, fun i hi => ?_, fun i hi => ?_⟩ hk
    · have e1 : nI (es ++ [(k', p')]).length = nI es.length + 1 := by rw [nI_1]; simp
      have e2 : nI (crs (es ++ [(k', p')])) = nI (crs es) + (if nI k' = 1 then 1 else 0) := by
        have k1 : (nI k' = (1 : Int32)) ↔ k' = 1 := nI_eq (b := 1) (by have := ok.1; omega) (by omega)
        rw [crs_snoc]
        simp only [k1]
        split
        · exact (nI_1 _).symm
        · exact (nI_add _ 0).symm
      rw [e1, e2]
      exact hC'
    · rw [hcl]
      by_cases c : i = es.length
      · subst c
        rw [getD_snoc_r]
        exact ⟨pk_us, pk_us⟩
      · have hi' : i < es.length := by simp at hi; omega
        rw [getD_snoc_l hi', pk_un c, pk_un c]
        exact hKP i hi'
    · rw [nI_1, nI_clamp (by omega), hcl]
      by_cases c : i = es.length + 1
      · subst c
        rw [pk_us, hA _ (Nat.le_refl _), List.take_length, List.take_of_length_le (by simp), ahL_snoc]
        refine nI_stp b2 ok.1 (fun z => ?_)
        have := ok.2.2.2.2
        rw [if_neg (by omega)] at this
        omega
      · have hi' : i ≤ es.length := by simp at hi; omega
        rw [pk_un c, List.take_append_of_le_length hi']
        exact hA i hi'
