/-! Front: loops -/
theorem FrontC_keep {h h' : mH} {G : mG} {F a b : Nat} {K P A : Nat → Int32} {n x : Int32} (hF : FrontC h G F K P A n x) (hk : mKeep h h' a b) (hd : F + 3 < a ∨ b < F) : FrontC h' G F K P A n x := by
  obtain ⟨h0, h1, h2, h3⟩ := hF
  exact ⟨by rw [hk F (by omega)]; exact h0, by rw [hk (F + 1) (by omega)]; exact h1, by rw [hk (F + 2) (by omega)]; exact h2, by rw [hk (F + 3) (by omega)]; exact h3⟩
theorem FrontR_keep {h h' : mH} {G : mG} {F a b : Nat} {es : List Ev} (hF : FrontR h G F es) (hk : mKeep h h' a b) (hd : F + 3 < a ∨ b < F) : FrontR h' G F es := by
  obtain ⟨hv, K, P, A, hC, hKP, hA⟩ := hF
  exact ⟨hv, K, P, A, FrontC_keep hC hk hd, hKP, hA⟩
theorem mKeep_trans {h h' h'' : mH} {a b : Nat} (h1 : mKeep h h' a b) (h2 : mKeep h' h'' a b) : mKeep h h'' a b := fun q hq => (h2 q hq).trans (h1 q hq)
theorem mKeep_rfl {h : mH} {a b : Nat} : mKeep h h a b := fun _ _ => rfl
/-- xs can stand behind es, one after the other -/
def allOk : List Ev → List Ev → Prop
  | _, [] => True
  | es, x :: xs => okEv es x.1 x.2 ∧ allOk (es ++ [x]) xs
theorem okEv_unique {es : List Ev} {k p k' p' : Nat} {a b : Int32} (h1 : a = nI k) (h2 : b = nI p) (h3 : a = nI k') (h4 : b = nI p') (o : okEv es k p) (hk' : k' < 2 ^ 31) (hp' : p' < 2 ^ 31) (hah : ahL es ≤ 10) : k = k' ∧ p = p' := by
  subst h1
  subst h2
  have hk := o.1
  have hp : p ≤ 10 := by
    have := o.2.2.2.2
    split at this <;> omega
  exact ⟨(nI_eq (by omega) hk').mp h3, (nI_eq (by omega) hp').mp h4⟩
theorem vld_small {es : List Ev} (h : vld es) {i : Nat} (hi : i < es.length) : (es.getD i (0, 0)).1 ≤ 2 ∧ (es.getD i (0, 0)).2 ≤ 10 := by
  have h1 := h i hi
  have h2 := (vld_le h i (by omega)).2.1
  refine ⟨h1.1, ?_⟩
  have := h1.2.2.2.2
  split at this <;> omega
set_option maxRecDepth 10000 in
theorem l_appendRange {G : mG} {d N F F2 a b : Nat} {fs : List Ev} {post : Option Value → mH → Prop} (hd : 3 ≤ d) (hFF : F2 + 3 < F ∨ F + 3 < F2) (hb : b ≤ fs.length) :
    ∀ (n i : Nat) (es : List Ev) (h : mH), b - i = n → i ≤ b → FrontR h G F es → FrontR h G F2 fs →
      (allOk es ((fs.drop i).take n) → ∀ h', FrontR h' G F (es ++ (fs.drop i).take n) → mKeep h h' F (F + 3) → post (some (.int 1)) h') →
      (¬ allOk es ((fs.drop i).take n) → ∀ h' es', FrontR h' G F es' → mKeep h h' F (F + 3) → post (some (.int 0)) h') →
      MW G MX0_appendRange (mz G d 0 0 post) 3 [some (.ref F), some (.ref F2), some (.int (nI a)), some (.int (nI b)), some (.int (nI i))] [] h (N, 0, 0) := by
  intro n
  induction n with
  | zero =>
    intro i es h hn hi hF hF2 hp1 hp0
    refine MW.run gd_X0_appendRange [] 16 ?_
    obtain ⟨hv2, K2, P2, A2, ⟨g0, g1, g2, g3⟩, hKP2, hA2⟩ := hF2
    simp only [↓EVi, ↓EVc, ↓ft_X0_appendRange, ↓reduceIte, ↓EV_ob g0, ↓EV_ai g1, ↓EV_ai g2, ↓EV_ai g3, mRun, List.not_mem_nil, mtab_eq, Nat.reduceEqDiff]
    have b30 := (vld_bd hv2).1
    have e : i = b := by omega
    subst e
    refine ⟨fun _ => ⟨Or.inr trivial, trivial, Nat.le_refl _, hp1 (by simp [allOk]) h (by simpa using hF) mKeep_rfl⟩, fun c => absurd ((nI_leI (by omega) (by omega)).mpr (Nat.le_refl i)) c⟩
  | succ n ih =>
    intro i es h hn hi hF hF2 hp1 hp0
    refine MW.run gd_X0_appendRange [] 16 ?_
    have hF2' := hF2
    obtain ⟨hv2, K2, P2, A2, ⟨g0, g1, g2, g3⟩, hKP2, hA2⟩ := hF2
    have hF' := hF
    obtain ⟨hv, Kf, Pf, Af, ⟨f0, -⟩, -⟩ := hF'
    simp only [↓EVi, ↓EVc, ↓ft_X0_appendRange, ↓reduceIte, ↓EV_ob f0, ↓EV_ob g0, ↓EV_ai g1, ↓EV_ai g2, ↓EV_ai g3, mRun, List.not_mem_nil, mtab_eq, Nat.reduceEqDiff]
    have b30 := (vld_bd hv2).1
    have hilt : i < fs.length := by omega
    have hcl : (nI i).toNatClampNeg = i := nI_clamp (by omega)
    obtain ⟨eK, eP⟩ := hKP2 i hilt
    obtain ⟨s1, s2⟩ := vld_small hv2 hilt
    have hdr : (fs.drop i).take (n + 1) = fs.getD i (0, 0) :: (fs.drop (i + 1)).take n := by
      rw [List.drop_eq_getElem_cons hilt, List.take_succ_cons, List.getD_eq_getElem?_getD]
      simp [hilt]
    generalize fs.getD i (0, 0) = ev at *
    rw [hdr] at hp1 hp0
    obtain ⟨b1, b2, b3⟩ := vld_bd hv
    refine ⟨fun c => absurd ((nI_leI (by omega) (by omega)).mp c) (by omega), fun _ => ⟨vp_in_nI (by omega) (by omega), vp_in_nI (by omega) (by omega), by omega, by decide, ?_⟩⟩
    rw [hcl, eK, eP]
    refine c_append hF (by omega) (fun no => ?_) (fun k' p' e1 e2 ok h' hF1 hk => ?_)
    · simp only [↓EVi, ↓EVc, ↓ft_X0_appendRange, ↓reduceIte, mRun, List.not_mem_nil, mtab_eq, Nat.reduceEqDiff]
      refine ⟨fun c => absurd trivial c, fun _ => ⟨Or.inl trivial, trivial, Nat.le_refl _, hp0 (fun z => no ⟨_, _, rfl, rfl, z.1⟩) h es hF mKeep_rfl⟩⟩
    · obtain ⟨q1, q2⟩ := okEv_unique e1 e2 rfl rfl ok (by omega) (by omega) b2
      have e3 : (k', p') = ev := by rw [q1, q2]
      subst q1
      subst q2
      simp only [↓EVi, ↓EVc, ↓ft_X0_appendRange, ↓reduceIte, mRun, List.not_mem_nil, mtab_eq, Nat.reduceEqDiff, Nat.zero_add]
      refine ⟨fun _ => ⟨trivial, ?_⟩, fun c => c.elim (by decide)⟩
      rw [nI_1]
      refine ih (i + 1) (es ++ [ev]) h' (by omega) (by omega) hF1 (FrontR_keep hF2' hk hFF) (fun ao h2 hF3 hk2 => hp1 ⟨ok, ao⟩ h2 (by simpa using hF3) (mKeep_trans hk hk2)) (fun ao h2 es' hF3 hk2 => hp0 (fun z => ao z.2) h2 es' hF3 (mKeep_trans hk hk2))
theorem c_appendRange {G : mG} {d N F F2 a b : Nat} {es fs : List Ev} {h : mH} {post : Option Value → mH → Prop} (hd : 3 ≤ d) (hFF : F2 + 3 < F ∨ F + 3 < F2) (hb : b ≤ fs.length) (hab : a ≤ b) (hF : FrontR h G F es) (hF2 : FrontR h G F2 fs)
    (hp1 : allOk es ((fs.drop a).take (b - a)) → ∀ h', FrontR h' G F (es ++ (fs.drop a).take (b - a)) → mKeep h h' F (F + 3) → post (some (.int 1)) h')
    (hp0 : ¬ allOk es ((fs.drop a).take (b - a)) → ∀ h' es', FrontR h' G F es' → mKeep h h' F (F + 3) → post (some (.int 0)) h') :
    MC G MX0_appendRange d 0 0 [.ref F, .ref F2, .int (nI a), .int (nI b)] h N post := by
  refine MC.of (L0 := [some (.ref F), some (.ref F2), some (.int (nI a)), some (.int (nI b)), none]) gd_X0_appendRange (Nat.le_of_ble_eq_true rfl) rfl (MW.run gd_X0_appendRange [3] 3 ?_)
  simp only [↓EVi, ↓EVc, ↓ft_X0_appendRange, ↓reduceIte, mRun, List.mem_cons, List.not_mem_nil, or_false, Nat.reduceEqDiff, Nat.zero_add]
  exact ⟨trivial, l_appendRange hd hFF hb (b - a) a es h rfl hab hF hF2 hp1 hp0⟩
