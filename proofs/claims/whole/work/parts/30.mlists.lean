/-! the model's fronts as lists -/
def evK (es : List Ev) (i : Nat) : Nat := (es.getD i (0, 0)).1
def evP (es : List Ev) (i : Nat) : Nat := (es.getD i (0, 0)).2
/-- front f of the model is es -/
def slotR (a : Nat → Nat → Int32) (f : Nat) (es : List Ev) : Prop := a 1 f = nI es.length ∧ ∀ i, i < es.length → a 2 (30 * f + i) = nI (evK es i) ∧ a 3 (30 * f + i) = nI (evP es i)
/-- the new list of the model is es -/
def newR (v : Nat → Int32) (a : Nat → Nat → Int32) (es : List Ev) : Prop := v 4 = nI es.length ∧ ∀ i, i < es.length → a 4 i = nI (evK es i) ∧ a 5 i = nI (evP es i)
theorem evK_l {es : List Ev} {x : List Ev} {i : Nat} (h : i < es.length) : evK (es ++ x) i = evK es i ∧ evP (es ++ x) i = evP es i := by
  unfold evK evP
  rw [List.getD_eq_getElem?_getD, List.getElem?_append_left h, ← List.getD_eq_getElem?_getD]
  exact ⟨rfl, rfl⟩
theorem evK_r {es : List Ev} {x : List Ev} {i : Nat} (h : es.length ≤ i) : evK (es ++ x) i = evK x (i - es.length) ∧ evP (es ++ x) i = evP x (i - es.length) := by
  unfold evK evP
  rw [List.getD_eq_getElem?_getD, List.getElem?_append_right h, ← List.getD_eq_getElem?_getD]
  exact ⟨rfl, rfl⟩
theorem evK_dt {es : List Ev} {i n j : Nat} (h : j < n) : evK ((es.drop i).take n) j = evK es (i + j) ∧ evP ((es.drop i).take n) j = evP es (i + j) := by
  unfold evK evP
  rw [List.getD_eq_getElem?_getD, List.getElem?_take, if_pos h, List.getElem?_drop, ← List.getD_eq_getElem?_getD]
  exact ⟨rfl, rfl⟩
theorem ahL_take {es : List Ev} {i : Nat} (h : i < es.length) : ahL (es.take (i + 1)) = stp (ahL (es.take i)) (evK es i) := by
  rw [take_snoc h, ahL_snoc]
  rfl
theorem crs_take {es : List Ev} {i : Nat} (h : i < es.length) : crs (es.take (i + 1)) = crs (es.take i) + (if evK es i = 1 then 1 else 0) := by
  rw [take_snoc h, crs_snoc]
  rfl
theorem vld_at {es : List Ev} (hv : vld es) {i : Nat} (h : i < es.length) : okEv (es.take i) (evK es i) (evP es i) := hv i h
theorem vld_sm {es : List Ev} (hv : vld es) {i : Nat} (h : i < es.length) : evK es i ≤ 2 ∧ evP es i ≤ 10 := vld_small hv h
theorem nI_ah {es : List Ev} (hv : vld es) {i : Nat} (h : i < es.length) : nI (ahL (es.take i)) + (if nI (evK es i) = 0 then 2 else if nI (evK es i) = 2 then -2 else 0) = nI (ahL (es.take (i + 1))) := by
  have hl := vld_le hv i (by omega)
  have ho := vld_at hv h
  rw [ahL_take h, nI_stp hl.2.1 ho.1 (fun z => ?_)]
  have := ho.2.2.2.2
  rw [if_neg (by omega)] at this
  omega
theorem newR_put {v v' : Nat → Int32} {a a' : Nat → Nat → Int32} {es : List Ev} {k p : Nat} (hN : newR v a es) (h64 : es.length < 64) (h4 : v' 4 = v 4 + 1) (ha : a' 4 = upd (a 4) (v 4).toNatClampNeg (nI k)) (ha5 : a' 5 = upd (a 5) (v 4).toNatClampNeg (nI p)) : newR v' a' (es ++ [(k, p)]) := by
  obtain ⟨h1, h2⟩ := hN
  rw [h1, nI_clamp (by omega)] at ha ha5
  refine ⟨by rw [h4, h1, nI_1]; simp, fun i hi => ?_⟩
  rw [List.length_append] at hi
  by_cases c : i < es.length
  · rw [(evK_l c).1, (evK_l c).2, ha, ha5, pk_un (by omega), pk_un (by omega)]
    exact h2 i c
  · have e : i = es.length := by simp at hi; omega
    rw [(evK_r (Nat.not_lt.mp c)).1, (evK_r (Nat.not_lt.mp c)).2, ha, ha5, e, pk_us, pk_us, Nat.sub_self]
    exact ⟨rfl, rfl⟩
theorem c_put {G : mG} {d N M : Nat} {v : Nat → Int32} {a : Nat → Nat → Int32} {k p : Nat} {es : List Ev} {h : mH} {post : Option Value → mH → Prop} (hM : ModelC h G M v a) (hN : newR v a es) (h64 : es.length < 64)
    (hp : ∀ h' v' a', ModelC h' G M v' a' → newR v' a' (es ++ [(k, p)]) → (∀ j, j ≠ 4 → v' j = v j) → (∀ j, j ≠ 4 → j ≠ 5 → a' j = a j) → mKeep h h' M (M + 17) → post none h') : MC G MX7_put d 0 0 [.ref M, .int (nI k), .int (nI p)] h N post := by
  refine m_put hM (by rw [hN.1]; exact vp_in_nI (by omega) (by omega)) (fun h' hM' hk => ?_)
  refine hp h' _ _ hM' (newR_put hN h64 pk_us rfl rfl) (fun j hj => pk_un hj) (fun j h4 h5 => ?_) hk
  unfold aset
  rw [if_neg h5, if_neg h4]
theorem c_putOf {G : mG} {d N M f i to : Nat} {v : Nat → Int32} {a : Nat → Nat → Int32} {es fs : List Ev} {h : mH} {post : Option Value → mH → Prop} (hd : 1 ≤ d) (hM : ModelC h G M v a) (hN : newR v a es) (hF : slotR a f fs) (hf : f < 8) (hi : i ≤ to) (ht : to ≤ fs.length) (h30 : fs.length ≤ 30) (h64 : es.length + (to - i) ≤ 64)
    (hp : ∀ h' v' a', ModelC h' G M v' a' → newR v' a' (es ++ (fs.drop i).take (to - i)) → (∀ j, j ≠ 4 → v' j = v j) → (∀ j, j ≠ 4 → j ≠ 5 → a' j = a j) → mKeep h h' M (M + 17) → post none h') : MC G MX7_putOf d 0 0 [.ref M, .int (nI f), .int (nI i), .int (nI to)] h N post := by
  refine m_putOf hd hf (by omega) hi hN.1 h64 hM (fun h' v' a' hM' e1 k1 k2 k3 hk => ?_)
  have hlen : ((fs.drop i).take (to - i)).length = to - i := by rw [List.length_take, List.length_drop]; omega
  refine hp h' v' a' hM' ⟨by rw [e1, pk_us, List.length_append, hlen], fun j hj => ?_⟩ (fun j hj => by rw [e1, pk_un hj]) k1 hk
  rw [List.length_append, hlen] at hj
  by_cases c : j < es.length
  · rw [(evK_l c).1, (evK_l c).2, (k2 j (Or.inl c)).1, (k2 j (Or.inl c)).2]
    exact hN.2 j c
  · have c' := Nat.not_lt.mp c
    have e2 := k3 (j - es.length) (by omega)
    rw [show es.length + (j - es.length) = j by omega] at e2
    have e3 := evK_dt (es := fs) (i := i) (n := to - i) (j := j - es.length) (by omega)
    rw [(evK_r c').1, (evK_r c').2, e3.1, e3.2, e2.1, e2.2]
    exact hF.2 (i + (j - es.length)) (by omega)
set_option maxRecDepth 10000 in
theorem m_store {G : mG} {d N M f : Nat} {v : Nat → Int32} {a : Nat → Nat → Int32} {es : List Ev} {h : mH} {post : Option Value → mH → Prop} (hM : ModelC h G M v a) (hN : newR v a es) (hf : f < 8) (h30 : es.length ≤ 30)
    (hp : ∀ h' a', ModelC h' G M v a' → slotR a' f es → (∀ g gs, g ≠ f → gs.length ≤ 30 → slotR a g gs → slotR a' g gs) → (∀ j, 4 ≤ j → a' j = a j) → mKeep h h' M (M + 17) → post none h') : MC G MX7_store d 0 0 [.ref M, .int (nI f)] h N post := by
  obtain ⟨n1, n2⟩ := hN
  have h0 := hM.1
  have a1 : h (M + 1) = some (.inl (gC G 0, 8, .inl (a 1))) := hM.2 1 (by decide) (by decide)
  refine MC.of (L0 := [some (.ref M), some (.int (nI f)), none]) gd_X7_store (Nat.le_of_ble_eq_true rfl) rfl (MW.run gd_X7_store [12] 20 ?_)
  simp (disch := omega) only [↓EVi, ↓EVc, ↓ft_X7_store, ↓reduceIte, ↓EV_obs, ↓EV_obn, ↓EV_ais, ↓EV_ain, ↓EV_ob h0, ↓EV_ai a1, mdF, mRun, List.mem_cons, List.not_mem_nil, or_false, mtab_eq, Nat.reduceEqDiff, Nat.zero_add]
  have hcf : (nI f).toNatClampNeg = f := nI_clamp (by omega)
  refine ⟨vp_in_nI hf (by decide), trivial, ?_⟩
  rw [hcf, n1]
  refine MW.upto es.length (fun i L h' => ∃ a', L = [some (.ref M), some (.int (nI f)), some (.int (nI i))] ∧ ModelC h' G M v a' ∧ a' 1 = upd (a 1) f (nI es.length) ∧ (∀ j, 4 ≤ j → a' j = a j) ∧ (∀ j, j < 30 * f ∨ 30 * f + i ≤ j → a' 2 j = a 2 j ∧ a' 3 j = a 3 j) ∧ (∀ j, j < i → a' 2 (30 * f + j) = nI (evK es j) ∧ a' 3 (30 * f + j) = nI (evP es j)) ∧ mKeep h h' M (M + 17)) ?_ ?_ 0 _ _ (Nat.zero_le _) ⟨aset a 1 (upd (a 1) f (nI es.length)), rfl, ModelC_a (k := 1) hM (by decide) (by decide), rfl, fun j hj => ?_, fun j _ => ⟨rfl, rfl⟩, fun j hj => absurd hj (Nat.not_lt_zero j), fun q hq => mset_ne (by omega)⟩
  · rintro i L h' hi ⟨a', rfl, hM', e1, e4, eo, ei, hk⟩ ih
    have h0 := hM'.1
    have a2 : h' (M + 2) = some (.inl (gC G 0, 240, .inl (a' 2))) := hM'.2 2 (by decide) (by decide)
    have a3 : h' (M + 3) = some (.inl (gC G 0, 240, .inl (a' 3))) := hM'.2 3 (by decide) (by decide)
    have a4 : h' (M + 4) = some (.inl (gC G 0, 64, .inl (a' 4))) := hM'.2 4 (by decide) (by decide)
    have a5 : h' (M + 5) = some (.inl (gC G 0, 64, .inl (a' 5))) := hM'.2 5 (by decide) (by decide)
    refine MW.run1 gd_X7_store [12] 40 ?_
    simp (disch := omega) only [↓EVi, ↓EVc, ↓ft_X7_store, ↓reduceIte, ↓EV_obs, ↓EV_obn, ↓EV_ais, ↓EV_ain, ↓EV_ob h0, ↓EV_ai a2, ↓EV_ai a3, ↓EV_ai a4, ↓EV_ai a5, mdF, mRun, List.mem_cons, List.not_mem_nil, or_false, mtab_eq, Nat.reduceEqDiff, Nat.zero_add]
    rw [n1]
    refine ⟨fun c => absurd ((nI_leI (by omega) (by omega)).mp c) (by omega), fun _ => ?_⟩
    have vi : vp_in (30 * nI f + nI i) 240 := by simp (disch := omega) only [z_nI, z_lit, z_neg, z_add, z_sub, z_mul, z_lt, z_le, z_eq, z_in, z_cl]; omega
    have v6 : vp_in (nI i) 64 := vp_in_nI (by omega) (by omega)
    have hci : (nI i).toNatClampNeg = i := nI_clamp (by omega)
    have hcj : (30 * nI f + nI i).toNatClampNeg = 30 * f + i := by simp (disch := omega) only [z_nI, z_lit, z_neg, z_add, z_sub, z_mul, z_lt, z_le, z_eq, z_in, z_cl]; omega
    rw [hci, hcj, e4 4 (by decide), e4 5 (by decide), (n2 i hi).1, (n2 i hi).2, nI_1]
    refine ⟨v6, vi, v6, vi, trivial, ih _ _ ⟨_, rfl, ModelC_a (k := 3) (ModelC_a (k := 2) hM' (by decide) (by decide)) (by decide) (by decide), e1, fun j hj => ?_, fun j hj => ?_, fun j hj => ?_, fun q hq => ?_⟩⟩
    · unfold aset
      rw [if_neg (by omega), if_neg (by omega)]
      exact e4 j hj
    · show upd (a' 2) (30 * f + i) (nI (evK es i)) j = _ ∧ upd (a' 3) (30 * f + i) (nI (evP es i)) j = _
      rw [pk_un (by omega), pk_un (by omega)]
      exact eo j (by omega)
    · show upd (a' 2) (30 * f + i) (nI (evK es i)) (30 * f + j) = _ ∧ upd (a' 3) (30 * f + i) (nI (evP es i)) (30 * f + j) = _
      by_cases c : j = i
      · subst c
        rw [pk_us, pk_us]
        exact ⟨rfl, rfl⟩
      · rw [pk_un (by omega), pk_un (by omega)]
        exact ei j (by omega)
    · simp (disch := omega) only [mset_ne]
      exact hk q hq
  · rintro L h' ⟨a', rfl, hM', e1, e4, eo, ei, hk⟩
    have h0 := hM'.1
    refine MW.run1 gd_X7_store [12] 40 ?_
    simp (disch := omega) only [↓EVi, ↓EVc, ↓ft_X7_store, ↓reduceIte, ↓EV_obs, ↓EV_obn, ↓EV_ais, ↓EV_ain, ↓EV_ob h0, mdF, mRun, List.mem_cons, List.not_mem_nil, or_false, mtab_eq, Nat.reduceEqDiff, Nat.zero_add]
    rw [n1]
    refine ⟨fun _ => ⟨trivial, Nat.le_refl _, hp h' a' hM' ⟨by rw [e1, pk_us], ei⟩ (fun g gs hg hgl hs => ⟨by rw [e1, pk_un hg]; exact hs.1, fun j hj => ?_⟩) e4 hk⟩, fun c => absurd ((nI_leI (by omega) (by omega)).mpr (Nat.le_refl _)) c⟩
    obtain ⟨q1, q2⟩ := eo (30 * g + j) (by omega)
    rw [q1, q2]
    exact hs.2 j hj
  · unfold aset
    rw [if_neg (by omega)]
set_option maxRecDepth 10000 in
theorem m_ahead {G : mG} {d N M f i : Nat} {v : Nat → Int32} {a : Nat → Nat → Int32} {es : List Ev} {h : mH} {post : Option Value → mH → Prop} (hd : 1 ≤ d) (hM : ModelC h G M v a) (hs : slotR a f es) (hv : vld es) (hf : f < 8) (hi : i ≤ es.length)
    (hp : post (some (.int (nI (ahL (es.take i))))) h) : MC G MX7_ahead d 0 0 [.ref M, .int (nI f), .int (nI i)] h N post := by
  have b30 := (vld_bd hv).1
  have h0 := hM.1
  have a2 : h (M + 2) = some (.inl (gC G 0, 240, .inl (a 2))) := hM.2 2 (by decide) (by decide)
  refine MC.of (L0 := [some (.ref M), some (.int (nI f)), some (.int (nI i)), none, none]) gd_X7_ahead (Nat.le_of_ble_eq_true rfl) rfl (MW.run gd_X7_ahead [5] 20 ?_)
  simp (disch := omega) only [↓EVi, ↓EVc, ↓ft_X7_ahead, ↓reduceIte, ↓EV_obs, ↓EV_obn, ↓EV_ais, ↓EV_ain, ↓EV_ob h0, ↓EV_ai a2, mdF, mRun, List.mem_cons, List.not_mem_nil, or_false, mtab_eq, Nat.reduceEqDiff, Nat.zero_add]
  refine ⟨trivial, trivial, MW.upto i (fun k L h' => L = [some (.ref M), some (.int (nI f)), some (.int (nI i)), some (.int (nI (ahL (es.take k)))), some (.int (nI k))] ∧ h' = h) ?_ ?_ 0 _ _ (Nat.zero_le _) ⟨rfl, rfl⟩⟩
  · rintro k L h' hk ⟨rfl, rfl⟩ ih
    refine MW.run1 gd_X7_ahead [5] 40 ?_
    simp (disch := omega) only [↓EVi, ↓EVc, ↓ft_X7_ahead, ↓reduceIte, ↓EV_obs, ↓EV_obn, ↓EV_ais, ↓EV_ain, ↓EV_ob h0, ↓EV_ai a2, mdF, mRun, List.mem_cons, List.not_mem_nil, or_false, mtab_eq, Nat.reduceEqDiff, Nat.zero_add]
    refine ⟨fun c => absurd ((nI_leI (by omega) (by omega)).mp c) (by omega), fun _ => ⟨by simp (disch := omega) only [z_nI, z_lit, z_neg, z_add, z_sub, z_mul, z_lt, z_le, z_eq, z_in, z_cl]; omega, hd, by decide, m_adds ?_⟩⟩
    have hcj : (30 * nI f + nI k).toNatClampNeg = 30 * f + k := by simp (disch := omega) only [z_nI, z_lit, z_neg, z_add, z_sub, z_mul, z_lt, z_le, z_eq, z_in, z_cl]; omega
    rw [hcj, (hs.2 k (by omega)).1]
    simp (disch := omega) only [↓EVi, ↓EVc, ↓ft_X7_ahead, ↓reduceIte, ↓EV_obs, ↓EV_obn, ↓EV_ais, ↓EV_ain, mdF, mRun, List.mem_cons, List.not_mem_nil, or_false, mtab_eq, Nat.reduceEqDiff, Nat.zero_add]
    rw [nI_ah hv (by omega), nI_1]
    exact ⟨trivial, trivial, ih _ _ ⟨rfl, rfl⟩⟩
  · rintro L h' ⟨rfl, rfl⟩
    refine MW.run1 gd_X7_ahead [5] 40 ?_
    simp (disch := omega) only [↓EVi, ↓EVc, ↓ft_X7_ahead, ↓reduceIte, ↓EV_obs, ↓EV_obn, ↓EV_ais, ↓EV_ain, ↓EV_ob h0, ↓EV_ai a2, mdF, mRun, List.mem_cons, List.not_mem_nil, or_false, mtab_eq, Nat.reduceEqDiff, Nat.zero_add]
    exact ⟨fun _ => ⟨trivial, Nat.le_refl _, hp⟩, fun c => absurd ((nI_leI (by omega) (by omega)).mpr (Nat.le_refl _)) c⟩
set_option maxRecDepth 10000 in
theorem m_crossesOf {G : mG} {d N M f : Nat} {v : Nat → Int32} {a : Nat → Nat → Int32} {es : List Ev} {h : mH} {post : Option Value → mH → Prop} (hM : ModelC h G M v a) (hs : slotR a f es) (hv : vld es) (hf : f < 8)
    (hp : post (some (.int (nI (crs es)))) h) : MC G MX7_crossesOf d 0 0 [.ref M, .int (nI f)] h N post := by
  have b30 := (vld_bd hv).1
  have h0 := hM.1
  have a1 : h (M + 1) = some (.inl (gC G 0, 8, .inl (a 1))) := hM.2 1 (by decide) (by decide)
  have a2 : h (M + 2) = some (.inl (gC G 0, 240, .inl (a 2))) := hM.2 2 (by decide) (by decide)
  have hcf : (nI f).toNatClampNeg = f := nI_clamp (by omega)
  refine MC.of (L0 := [some (.ref M), some (.int (nI f)), none, none]) gd_X7_crossesOf (Nat.le_of_ble_eq_true rfl) rfl (MW.run gd_X7_crossesOf [4] 20 ?_)
  simp (disch := omega) only [↓EVi, ↓EVc, ↓ft_X7_crossesOf, ↓reduceIte, ↓EV_obs, ↓EV_obn, ↓EV_ais, ↓EV_ain, ↓EV_ob h0, ↓EV_ai a2, mdF, mRun, List.mem_cons, List.not_mem_nil, or_false, mtab_eq, Nat.reduceEqDiff, Nat.zero_add]
  refine ⟨trivial, trivial, MW.upto es.length (fun k L h' => L = [some (.ref M), some (.int (nI f)), some (.int (nI (crs (es.take k)))), some (.int (nI k))] ∧ h' = h) ?_ ?_ 0 _ _ (Nat.zero_le _) ⟨rfl, rfl⟩⟩
  · rintro k L h' hk ⟨rfl, rfl⟩ ih
    refine MW.run1 gd_X7_crossesOf [4] 40 ?_
    simp (disch := omega) only [↓EVi, ↓EVc, ↓ft_X7_crossesOf, ↓reduceIte, ↓EV_obs, ↓EV_obn, ↓EV_ais, ↓EV_ain, ↓EV_ob h0, ↓EV_ai a1, ↓EV_ai a2, mdF, mRun, List.mem_cons, List.not_mem_nil, or_false, mtab_eq, Nat.reduceEqDiff, Nat.zero_add]
    rw [hcf, hs.1]
    have hcj : (30 * nI f + nI k).toNatClampNeg = 30 * f + k := by simp (disch := omega) only [z_nI, z_lit, z_neg, z_add, z_sub, z_mul, z_lt, z_le, z_eq, z_in, z_cl]; omega
    have vi : vp_in (30 * nI f + nI k) 240 := by simp (disch := omega) only [z_nI, z_lit, z_neg, z_add, z_sub, z_mul, z_lt, z_le, z_eq, z_in, z_cl]; omega
    have hl := vld_sm hv hk
    have k1 : (nI (evK es k) = (1 : Int32)) ↔ evK es k = 1 := nI_eq (b := 1) (by omega) (by omega)
    rw [hcj, (hs.2 k (by omega)).1]
    refine ⟨vp_in_nI hf (by decide), fun c => absurd ((nI_leI (by omega) (by omega)).mp c) (by omega), fun _ => ⟨vi, fun c => ⟨trivial, trivial, ih _ _ ⟨?_, rfl⟩⟩, fun c => ⟨trivial, trivial, ih _ _ ⟨?_, rfl⟩⟩⟩⟩
    · rw [crs_take (by omega), if_neg (fun z => c (k1.mpr z)), nI_1, show (0 : Int32) = nI 0 from rfl, nI_add]
    · rw [crs_take (by omega), if_pos (k1.mp (Classical.not_not.mp c)), nI_1, nI_1]
  · rintro L h' ⟨rfl, rfl⟩
    refine MW.run1 gd_X7_crossesOf [4] 40 ?_
    simp (disch := omega) only [↓EVi, ↓EVc, ↓ft_X7_crossesOf, ↓reduceIte, ↓EV_obs, ↓EV_obn, ↓EV_ais, ↓EV_ain, ↓EV_ob h0, ↓EV_ai a1, ↓EV_ai a2, mdF, mRun, List.mem_cons, List.not_mem_nil, or_false, mtab_eq, Nat.reduceEqDiff, Nat.zero_add]
    rw [hcf, hs.1, List.take_length]
    exact ⟨vp_in_nI hf (by decide), fun _ => ⟨trivial, Nat.le_refl _, hp⟩, fun c => absurd ((nI_leI (by omega) (by omega)).mpr (Nat.le_refl _)) c⟩
